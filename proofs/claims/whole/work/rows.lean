section
-- ===== PART A: goes FIRST, ahead of the names: the tables' words, and 'selects' of the private methods out of them =====
/-- a private method of a class that the tables say can be made, by its rows of tables_1 -/
def lw_okq (q : MethodName × Nat) : Prop := (q.1.cls ≠ "java/lang/invoke/MethodHandle" ∧ q.1.cls ≠ "java/lang/invoke/VarHandle") ∧ Cond.instantiable q.1.cls q.2 ∈ tables_1 ∧ Cond.privateMethod q.1 ∈ tables_1 ∧ Cond.instanceMethod q.1 ∈ tables_1
theorem lw_p0 : lw_okq (⟨"HandedVoices$Rules", "clear", "()V"⟩, 6) := ⟨⟨by decide +kernel, by decide +kernel⟩, List.mem_of_getElem? (i := 93) (by decide +kernel), List.mem_of_getElem? (i := 99) (by decide +kernel), List.mem_of_getElem? (i := 100) (by decide +kernel)⟩
theorem lw_p1 : lw_okq (⟨"HandedVoices$Hands", "sits", "(I)Z"⟩, 9) := ⟨⟨by decide +kernel, by decide +kernel⟩, List.mem_of_getElem? (i := 29) (by decide +kernel), List.mem_of_getElem? (i := 369) (by decide +kernel), List.mem_of_getElem? (i := 370) (by decide +kernel)⟩
theorem lw_p2 : lw_okq (⟨"HandedVoices$Hands", "opinion", "(II)I"⟩, 9) := ⟨⟨by decide +kernel, by decide +kernel⟩, List.mem_of_getElem? (i := 29) (by decide +kernel), List.mem_of_getElem? (i := 376) (by decide +kernel), List.mem_of_getElem? (i := 377) (by decide +kernel)⟩
theorem lw_p3 : lw_okq (⟨"HandedVoices$Hands", "form", "(IIZI)V"⟩, 9) := ⟨⟨by decide +kernel, by decide +kernel⟩, List.mem_of_getElem? (i := 29) (by decide +kernel), List.mem_of_getElem? (i := 383) (by decide +kernel), List.mem_of_getElem? (i := 384) (by decide +kernel)⟩
theorem lw_p4 : lw_okq (⟨"HandedVoices$Law", "learn", "(I)V"⟩, 5) := ⟨⟨by decide +kernel, by decide +kernel⟩, List.mem_of_getElem? (i := 152) (by decide +kernel), List.mem_of_getElem? (i := 388) (by decide +kernel), List.mem_of_getElem? (i := 389) (by decide +kernel)⟩
theorem lw_p5 : lw_okq (⟨"HandedVoices$Law", "maskOf", "(II)I"⟩, 5) := ⟨⟨by decide +kernel, by decide +kernel⟩, List.mem_of_getElem? (i := 152) (by decide +kernel), List.mem_of_getElem? (i := 393) (by decide +kernel), List.mem_of_getElem? (i := 394) (by decide +kernel)⟩
theorem lw_p6 : lw_okq (⟨"HandedVoices$Rules", "forbid", "([I)Z"⟩, 6) := ⟨⟨by decide +kernel, by decide +kernel⟩, List.mem_of_getElem? (i := 93) (by decide +kernel), List.mem_of_getElem? (i := 397) (by decide +kernel), List.mem_of_getElem? (i := 398) (by decide +kernel)⟩
theorem lw_p7 : lw_okq (⟨"HandedVoices$Hands", "renew", "(IIIII)I"⟩, 9) := ⟨⟨by decide +kernel, by decide +kernel⟩, List.mem_of_getElem? (i := 29) (by decide +kernel), List.mem_of_getElem? (i := 408) (by decide +kernel), List.mem_of_getElem? (i := 409) (by decide +kernel)⟩
theorem lw_p8 : lw_okq (⟨"HandedVoices$HallText", "append", "(I)V"⟩, 6) := ⟨⟨by decide +kernel, by decide +kernel⟩, List.mem_of_getElem? (i := 87) (by decide +kernel), List.mem_of_getElem? (i := 436) (by decide +kernel), List.mem_of_getElem? (i := 437) (by decide +kernel)⟩
theorem lw_p9 : lw_okq (⟨"HandedVoices$HallText", "fault", "()I"⟩, 6) := ⟨⟨by decide +kernel, by decide +kernel⟩, List.mem_of_getElem? (i := 87) (by decide +kernel), List.mem_of_getElem? (i := 444) (by decide +kernel), List.mem_of_getElem? (i := 445) (by decide +kernel)⟩
theorem lw_p10 : lw_okq (⟨"HandedVoices$HallText", "clause", "()Z"⟩, 6) := ⟨⟨by decide +kernel, by decide +kernel⟩, List.mem_of_getElem? (i := 87) (by decide +kernel), List.mem_of_getElem? (i := 449) (by decide +kernel), List.mem_of_getElem? (i := 450) (by decide +kernel)⟩
theorem lw_p11 : lw_okq (⟨"HandedVoices$HallText", "seen", "()I"⟩, 6) := ⟨⟨by decide +kernel, by decide +kernel⟩, List.mem_of_getElem? (i := 87) (by decide +kernel), List.mem_of_getElem? (i := 453) (by decide +kernel), List.mem_of_getElem? (i := 454) (by decide +kernel)⟩
theorem lw_p12 : lw_okq (⟨"HandedVoices$HallText", "word", "(Ljava/lang/String;)Z"⟩, 6) := ⟨⟨by decide +kernel, by decide +kernel⟩, List.mem_of_getElem? (i := 87) (by decide +kernel), List.mem_of_getElem? (i := 458) (by decide +kernel), List.mem_of_getElem? (i := 459) (by decide +kernel)⟩
theorem lw_p13 : lw_okq (⟨"HandedVoices$HallText", "either", "(I)Z"⟩, 6) := ⟨⟨by decide +kernel, by decide +kernel⟩, List.mem_of_getElem? (i := 87) (by decide +kernel), List.mem_of_getElem? (i := 510) (by decide +kernel), List.mem_of_getElem? (i := 511) (by decide +kernel)⟩
theorem lw_p14 : lw_okq (⟨"HandedVoices$HallText", "single", "(I)Z"⟩, 6) := ⟨⟨by decide +kernel, by decide +kernel⟩, List.mem_of_getElem? (i := 87) (by decide +kernel), List.mem_of_getElem? (i := 514) (by decide +kernel), List.mem_of_getElem? (i := 515) (by decide +kernel)⟩
theorem lw_p15 : lw_okq (⟨"HandedVoices$HallText", "test", "()Z"⟩, 6) := ⟨⟨by decide +kernel, by decide +kernel⟩, List.mem_of_getElem? (i := 87) (by decide +kernel), List.mem_of_getElem? (i := 518) (by decide +kernel), List.mem_of_getElem? (i := 519) (by decide +kernel)⟩
def lw_privs_1 : List (MethodName × Nat) := [(⟨"HandedVoices$Rules", "clear", "()V"⟩, 6), (⟨"HandedVoices$Hands", "sits", "(I)Z"⟩, 9), (⟨"HandedVoices$Hands", "opinion", "(II)I"⟩, 9), (⟨"HandedVoices$Hands", "form", "(IIZI)V"⟩, 9), (⟨"HandedVoices$Law", "learn", "(I)V"⟩, 5), (⟨"HandedVoices$Law", "maskOf", "(II)I"⟩, 5), (⟨"HandedVoices$Rules", "forbid", "([I)Z"⟩, 6), (⟨"HandedVoices$Hands", "renew", "(IIIII)I"⟩, 9), (⟨"HandedVoices$HallText", "append", "(I)V"⟩, 6), (⟨"HandedVoices$HallText", "fault", "()I"⟩, 6), (⟨"HandedVoices$HallText", "clause", "()Z"⟩, 6), (⟨"HandedVoices$HallText", "seen", "()I"⟩, 6), (⟨"HandedVoices$HallText", "word", "(Ljava/lang/String;)Z"⟩, 6), (⟨"HandedVoices$HallText", "either", "(I)Z"⟩, 6), (⟨"HandedVoices$HallText", "single", "(I)Z"⟩, 6), (⟨"HandedVoices$HallText", "test", "()Z"⟩, 6)]
theorem lw_r1 : ∀ q ∈ lw_privs_1, lw_okq q := List.forall_mem_cons.mpr ⟨lw_p0, List.forall_mem_cons.mpr ⟨lw_p1, List.forall_mem_cons.mpr ⟨lw_p2, List.forall_mem_cons.mpr ⟨lw_p3, List.forall_mem_cons.mpr ⟨lw_p4, List.forall_mem_cons.mpr ⟨lw_p5, List.forall_mem_cons.mpr ⟨lw_p6, List.forall_mem_cons.mpr ⟨lw_p7, List.forall_mem_cons.mpr ⟨lw_p8, List.forall_mem_cons.mpr ⟨lw_p9, List.forall_mem_cons.mpr ⟨lw_p10, List.forall_mem_cons.mpr ⟨lw_p11, List.forall_mem_cons.mpr ⟨lw_p12, List.forall_mem_cons.mpr ⟨lw_p13, List.forall_mem_cons.mpr ⟨lw_p14, List.forall_mem_cons.mpr ⟨lw_p15, fun _ h => absurd h List.not_mem_nil⟩⟩⟩⟩⟩⟩⟩⟩⟩⟩⟩⟩⟩⟩⟩⟩
theorem lw_p16 : lw_okq (⟨"HandedVoices$HallText", "signOf", "(Ljava/lang/String;)I"⟩, 6) := ⟨⟨by decide +kernel, by decide +kernel⟩, List.mem_of_getElem? (i := 87) (by decide +kernel), List.mem_of_getElem? (i := 523) (by decide +kernel), List.mem_of_getElem? (i := 524) (by decide +kernel)⟩
theorem lw_p17 : lw_okq (⟨"HandedVoices$HallText", "figuresOf", "()Z"⟩, 6) := ⟨⟨by decide +kernel, by decide +kernel⟩, List.mem_of_getElem? (i := 87) (by decide +kernel), List.mem_of_getElem? (i := 528) (by decide +kernel), List.mem_of_getElem? (i := 529) (by decide +kernel)⟩
theorem lw_p18 : lw_okq (⟨"HandedVoices$Rules", "add", "(I)V"⟩, 6) := ⟨⟨by decide +kernel, by decide +kernel⟩, List.mem_of_getElem? (i := 93) (by decide +kernel), List.mem_of_getElem? (i := 535) (by decide +kernel), List.mem_of_getElem? (i := 536) (by decide +kernel)⟩
theorem lw_p19 : lw_okq (⟨"HandedVoices$HallText", "need", "()Z"⟩, 6) := ⟨⟨by decide +kernel, by decide +kernel⟩, List.mem_of_getElem? (i := 87) (by decide +kernel), List.mem_of_getElem? (i := 541) (by decide +kernel), List.mem_of_getElem? (i := 542) (by decide +kernel)⟩
theorem lw_p20 : lw_okq (⟨"HandedVoices$HallText", "ring", "()Z"⟩, 6) := ⟨⟨by decide +kernel, by decide +kernel⟩, List.mem_of_getElem? (i := 87) (by decide +kernel), List.mem_of_getElem? (i := 547) (by decide +kernel), List.mem_of_getElem? (i := 548) (by decide +kernel)⟩
theorem lw_p21 : lw_okq (⟨"HandedVoices$Law", "adopt", "(LHandedVoices$Rules;)LHandedVoices$Rules;"⟩, 5) := ⟨⟨by decide +kernel, by decide +kernel⟩, List.mem_of_getElem? (i := 152) (by decide +kernel), List.mem_of_getElem? (i := 551) (by decide +kernel), List.mem_of_getElem? (i := 552) (by decide +kernel)⟩
theorem lw_p22 : lw_okq (⟨"HandedVoices$Law", "bars", "(III)Z"⟩, 5) := ⟨⟨by decide +kernel, by decide +kernel⟩, List.mem_of_getElem? (i := 152) (by decide +kernel), List.mem_of_getElem? (i := 561) (by decide +kernel), List.mem_of_getElem? (i := 562) (by decide +kernel)⟩
theorem lw_p23 : lw_okq (⟨"HandedVoices$Spread", "lay", "(IIIII)V"⟩, 11) := ⟨⟨by decide +kernel, by decide +kernel⟩, List.mem_of_getElem? (i := 180) (by decide +kernel), List.mem_of_getElem? (i := 569) (by decide +kernel), List.mem_of_getElem? (i := 570) (by decide +kernel)⟩
theorem lw_p24 : lw_okq (⟨"HandedVoices$Spread", "layFirm", "(IIIII)V"⟩, 11) := ⟨⟨by decide +kernel, by decide +kernel⟩, List.mem_of_getElem? (i := 180) (by decide +kernel), List.mem_of_getElem? (i := 573) (by decide +kernel), List.mem_of_getElem? (i := 574) (by decide +kernel)⟩
theorem lw_p25 : lw_okq (⟨"HandedVoices$Spread", "send", "(III)V"⟩, 11) := ⟨⟨by decide +kernel, by decide +kernel⟩, List.mem_of_getElem? (i := 180) (by decide +kernel), List.mem_of_getElem? (i := 578) (by decide +kernel), List.mem_of_getElem? (i := 579) (by decide +kernel)⟩
theorem lw_p26 : lw_okq (⟨"HandedVoices$Spread", "stay", "(II)V"⟩, 11) := ⟨⟨by decide +kernel, by decide +kernel⟩, List.mem_of_getElem? (i := 180) (by decide +kernel), List.mem_of_getElem? (i := 582) (by decide +kernel), List.mem_of_getElem? (i := 583) (by decide +kernel)⟩
theorem lw_p27 : lw_okq (⟨"HandedVoices$Hands", "isSelf", "(II)Z"⟩, 9) := ⟨⟨by decide +kernel, by decide +kernel⟩, List.mem_of_getElem? (i := 29) (by decide +kernel), List.mem_of_getElem? (i := 586) (by decide +kernel), List.mem_of_getElem? (i := 587) (by decide +kernel)⟩
theorem lw_p28 : lw_okq (⟨"HandedVoices$Spread", "layHand", "(II)V"⟩, 11) := ⟨⟨by decide +kernel, by decide +kernel⟩, List.mem_of_getElem? (i := 180) (by decide +kernel), List.mem_of_getElem? (i := 590) (by decide +kernel), List.mem_of_getElem? (i := 591) (by decide +kernel)⟩
theorem lw_p29 : lw_okq (⟨"HandedVoices$Hands", "surestOf", "(II)I"⟩, 9) := ⟨⟨by decide +kernel, by decide +kernel⟩, List.mem_of_getElem? (i := 29) (by decide +kernel), List.mem_of_getElem? (i := 594) (by decide +kernel), List.mem_of_getElem? (i := 595) (by decide +kernel)⟩
theorem lw_p30 : lw_okq (⟨"HandedVoices$Spread", "layOrders", "()V"⟩, 11) := ⟨⟨by decide +kernel, by decide +kernel⟩, List.mem_of_getElem? (i := 180) (by decide +kernel), List.mem_of_getElem? (i := 598) (by decide +kernel), List.mem_of_getElem? (i := 599) (by decide +kernel)⟩
theorem lw_p31 : lw_okq (⟨"HandedVoices$Spread", "seekWays", "(Z)V"⟩, 11) := ⟨⟨by decide +kernel, by decide +kernel⟩, List.mem_of_getElem? (i := 180) (by decide +kernel), List.mem_of_getElem? (i := 602) (by decide +kernel), List.mem_of_getElem? (i := 603) (by decide +kernel)⟩
def lw_privs_2 : List (MethodName × Nat) := [(⟨"HandedVoices$HallText", "signOf", "(Ljava/lang/String;)I"⟩, 6), (⟨"HandedVoices$HallText", "figuresOf", "()Z"⟩, 6), (⟨"HandedVoices$Rules", "add", "(I)V"⟩, 6), (⟨"HandedVoices$HallText", "need", "()Z"⟩, 6), (⟨"HandedVoices$HallText", "ring", "()Z"⟩, 6), (⟨"HandedVoices$Law", "adopt", "(LHandedVoices$Rules;)LHandedVoices$Rules;"⟩, 5), (⟨"HandedVoices$Law", "bars", "(III)Z"⟩, 5), (⟨"HandedVoices$Spread", "lay", "(IIIII)V"⟩, 11), (⟨"HandedVoices$Spread", "layFirm", "(IIIII)V"⟩, 11), (⟨"HandedVoices$Spread", "send", "(III)V"⟩, 11), (⟨"HandedVoices$Spread", "stay", "(II)V"⟩, 11), (⟨"HandedVoices$Hands", "isSelf", "(II)Z"⟩, 9), (⟨"HandedVoices$Spread", "layHand", "(II)V"⟩, 11), (⟨"HandedVoices$Hands", "surestOf", "(II)I"⟩, 9), (⟨"HandedVoices$Spread", "layOrders", "()V"⟩, 11), (⟨"HandedVoices$Spread", "seekWays", "(Z)V"⟩, 11)]
theorem lw_r2 : ∀ q ∈ lw_privs_2, lw_okq q := List.forall_mem_cons.mpr ⟨lw_p16, List.forall_mem_cons.mpr ⟨lw_p17, List.forall_mem_cons.mpr ⟨lw_p18, List.forall_mem_cons.mpr ⟨lw_p19, List.forall_mem_cons.mpr ⟨lw_p20, List.forall_mem_cons.mpr ⟨lw_p21, List.forall_mem_cons.mpr ⟨lw_p22, List.forall_mem_cons.mpr ⟨lw_p23, List.forall_mem_cons.mpr ⟨lw_p24, List.forall_mem_cons.mpr ⟨lw_p25, List.forall_mem_cons.mpr ⟨lw_p26, List.forall_mem_cons.mpr ⟨lw_p27, List.forall_mem_cons.mpr ⟨lw_p28, List.forall_mem_cons.mpr ⟨lw_p29, List.forall_mem_cons.mpr ⟨lw_p30, List.forall_mem_cons.mpr ⟨lw_p31, fun _ h => absurd h List.not_mem_nil⟩⟩⟩⟩⟩⟩⟩⟩⟩⟩⟩⟩⟩⟩⟩⟩
theorem lw_p32 : lw_okq (⟨"HandedVoices$Spread", "openNames", "([I)I"⟩, 11) := ⟨⟨by decide +kernel, by decide +kernel⟩, List.mem_of_getElem? (i := 180) (by decide +kernel), List.mem_of_getElem? (i := 606) (by decide +kernel), List.mem_of_getElem? (i := 607) (by decide +kernel)⟩
theorem lw_p33 : lw_okq (⟨"HandedVoices$Spread", "reachAll", "(I)Z"⟩, 11) := ⟨⟨by decide +kernel, by decide +kernel⟩, List.mem_of_getElem? (i := 180) (by decide +kernel), List.mem_of_getElem? (i := 616) (by decide +kernel), List.mem_of_getElem? (i := 617) (by decide +kernel)⟩
theorem lw_p34 : lw_okq (⟨"HandedVoices$Spread", "nameOf", "(II)I"⟩, 11) := ⟨⟨by decide +kernel, by decide +kernel⟩, List.mem_of_getElem? (i := 180) (by decide +kernel), List.mem_of_getElem? (i := 620) (by decide +kernel), List.mem_of_getElem? (i := 621) (by decide +kernel)⟩
theorem lw_p35 : lw_okq (⟨"HandedVoices$Spread", "reaching", "()I"⟩, 11) := ⟨⟨by decide +kernel, by decide +kernel⟩, List.mem_of_getElem? (i := 180) (by decide +kernel), List.mem_of_getElem? (i := 624) (by decide +kernel), List.mem_of_getElem? (i := 625) (by decide +kernel)⟩
theorem lw_p36 : lw_okq (⟨"HandedVoices$Tally", "reckonNow", "(I)V"⟩, 10) := ⟨⟨by decide +kernel, by decide +kernel⟩, List.mem_of_getElem? (i := 227) (by decide +kernel), List.mem_of_getElem? (i := 636) (by decide +kernel), List.mem_of_getElem? (i := 637) (by decide +kernel)⟩
theorem lw_p37 : lw_okq (⟨"HandedVoices$Tally", "reckon", "(IIIII)V"⟩, 10) := ⟨⟨by decide +kernel, by decide +kernel⟩, List.mem_of_getElem? (i := 227) (by decide +kernel), List.mem_of_getElem? (i := 640) (by decide +kernel), List.mem_of_getElem? (i := 641) (by decide +kernel)⟩
theorem lw_p38 : lw_okq (⟨"HandedVoices$Tally", "weigh", "()V"⟩, 10) := ⟨⟨by decide +kernel, by decide +kernel⟩, List.mem_of_getElem? (i := 227) (by decide +kernel), List.mem_of_getElem? (i := 645) (by decide +kernel), List.mem_of_getElem? (i := 646) (by decide +kernel)⟩
theorem lw_p39 : lw_okq (⟨"HandedVoices$Tally", "listHeard", "(I)I"⟩, 10) := ⟨⟨by decide +kernel, by decide +kernel⟩, List.mem_of_getElem? (i := 227) (by decide +kernel), List.mem_of_getElem? (i := 653) (by decide +kernel), List.mem_of_getElem? (i := 654) (by decide +kernel)⟩
theorem lw_p40 : lw_okq (⟨"HandedVoices$Tally", "fillRows", "(I)V"⟩, 10) := ⟨⟨by decide +kernel, by decide +kernel⟩, List.mem_of_getElem? (i := 227) (by decide +kernel), List.mem_of_getElem? (i := 657) (by decide +kernel), List.mem_of_getElem? (i := 658) (by decide +kernel)⟩
theorem lw_p41 : lw_okq (⟨"HandedVoices$Tally", "unroll", "(I)J"⟩, 10) := ⟨⟨by decide +kernel, by decide +kernel⟩, List.mem_of_getElem? (i := 227) (by decide +kernel), List.mem_of_getElem? (i := 662) (by decide +kernel), List.mem_of_getElem? (i := 663) (by decide +kernel)⟩
theorem lw_p42 : lw_okq (⟨"HandedVoices$Tally", "sumOf", "(I)J"⟩, 10) := ⟨⟨by decide +kernel, by decide +kernel⟩, List.mem_of_getElem? (i := 227) (by decide +kernel), List.mem_of_getElem? (i := 687) (by decide +kernel), List.mem_of_getElem? (i := 688) (by decide +kernel)⟩
theorem lw_p43 : lw_okq (⟨"HandedVoices$Tally", "decides", "(J)Z"⟩, 10) := ⟨⟨by decide +kernel, by decide +kernel⟩, List.mem_of_getElem? (i := 227) (by decide +kernel), List.mem_of_getElem? (i := 691) (by decide +kernel), List.mem_of_getElem? (i := 692) (by decide +kernel)⟩
theorem lw_p44 : lw_okq (⟨"HandedVoices$Tally", "withVoices", "()I"⟩, 10) := ⟨⟨by decide +kernel, by decide +kernel⟩, List.mem_of_getElem? (i := 227) (by decide +kernel), List.mem_of_getElem? (i := 703) (by decide +kernel), List.mem_of_getElem? (i := 704) (by decide +kernel)⟩
theorem lw_p45 : lw_okq (⟨"HandedVoices$Tally", "chanceIf", "(IIII)J"⟩, 10) := ⟨⟨by decide +kernel, by decide +kernel⟩, List.mem_of_getElem? (i := 227) (by decide +kernel), List.mem_of_getElem? (i := 722) (by decide +kernel), List.mem_of_getElem? (i := 723) (by decide +kernel)⟩
theorem lw_p46 : lw_okq (⟨"HandedVoices$Tally", "chance", "(I)J"⟩, 10) := ⟨⟨by decide +kernel, by decide +kernel⟩, List.mem_of_getElem? (i := 227) (by decide +kernel), List.mem_of_getElem? (i := 726) (by decide +kernel), List.mem_of_getElem? (i := 727) (by decide +kernel)⟩
theorem lw_p47 : lw_okq (⟨"HandedVoices$Tally", "fork", "(IJI)V"⟩, 10) := ⟨⟨by decide +kernel, by decide +kernel⟩, List.mem_of_getElem? (i := 227) (by decide +kernel), List.mem_of_getElem? (i := 733) (by decide +kernel), List.mem_of_getElem? (i := 734) (by decide +kernel)⟩
def lw_privs_3 : List (MethodName × Nat) := [(⟨"HandedVoices$Spread", "openNames", "([I)I"⟩, 11), (⟨"HandedVoices$Spread", "reachAll", "(I)Z"⟩, 11), (⟨"HandedVoices$Spread", "nameOf", "(II)I"⟩, 11), (⟨"HandedVoices$Spread", "reaching", "()I"⟩, 11), (⟨"HandedVoices$Tally", "reckonNow", "(I)V"⟩, 10), (⟨"HandedVoices$Tally", "reckon", "(IIIII)V"⟩, 10), (⟨"HandedVoices$Tally", "weigh", "()V"⟩, 10), (⟨"HandedVoices$Tally", "listHeard", "(I)I"⟩, 10), (⟨"HandedVoices$Tally", "fillRows", "(I)V"⟩, 10), (⟨"HandedVoices$Tally", "unroll", "(I)J"⟩, 10), (⟨"HandedVoices$Tally", "sumOf", "(I)J"⟩, 10), (⟨"HandedVoices$Tally", "decides", "(J)Z"⟩, 10), (⟨"HandedVoices$Tally", "withVoices", "()I"⟩, 10), (⟨"HandedVoices$Tally", "chanceIf", "(IIII)J"⟩, 10), (⟨"HandedVoices$Tally", "chance", "(I)J"⟩, 10), (⟨"HandedVoices$Tally", "fork", "(IJI)V"⟩, 10)]
theorem lw_r3 : ∀ q ∈ lw_privs_3, lw_okq q := List.forall_mem_cons.mpr ⟨lw_p32, List.forall_mem_cons.mpr ⟨lw_p33, List.forall_mem_cons.mpr ⟨lw_p34, List.forall_mem_cons.mpr ⟨lw_p35, List.forall_mem_cons.mpr ⟨lw_p36, List.forall_mem_cons.mpr ⟨lw_p37, List.forall_mem_cons.mpr ⟨lw_p38, List.forall_mem_cons.mpr ⟨lw_p39, List.forall_mem_cons.mpr ⟨lw_p40, List.forall_mem_cons.mpr ⟨lw_p41, List.forall_mem_cons.mpr ⟨lw_p42, List.forall_mem_cons.mpr ⟨lw_p43, List.forall_mem_cons.mpr ⟨lw_p44, List.forall_mem_cons.mpr ⟨lw_p45, List.forall_mem_cons.mpr ⟨lw_p46, List.forall_mem_cons.mpr ⟨lw_p47, fun _ h => absurd h List.not_mem_nil⟩⟩⟩⟩⟩⟩⟩⟩⟩⟩⟩⟩⟩⟩⟩⟩
theorem lw_p48 : lw_okq (⟨"HandedVoices$Wishes", "firstBreach", "(I)I"⟩, 5) := ⟨⟨by decide +kernel, by decide +kernel⟩, List.mem_of_getElem? (i := 271) (by decide +kernel), List.mem_of_getElem? (i := 748) (by decide +kernel), List.mem_of_getElem? (i := 749) (by decide +kernel)⟩
theorem lw_p49 : lw_okq (⟨"HandedVoices$Wishes", "firstWish", "(I)I"⟩, 5) := ⟨⟨by decide +kernel, by decide +kernel⟩, List.mem_of_getElem? (i := 271) (by decide +kernel), List.mem_of_getElem? (i := 758) (by decide +kernel), List.mem_of_getElem? (i := 759) (by decide +kernel)⟩
theorem lw_p50 : lw_okq (⟨"HandedVoices$Tally", "highest", "()J"⟩, 10) := ⟨⟨by decide +kernel, by decide +kernel⟩, List.mem_of_getElem? (i := 227) (by decide +kernel), List.mem_of_getElem? (i := 771) (by decide +kernel), List.mem_of_getElem? (i := 772) (by decide +kernel)⟩
theorem lw_p51 : lw_okq (⟨"HandedVoices$Wishes", "bestMending", "(III)I"⟩, 5) := ⟨⟨by decide +kernel, by decide +kernel⟩, List.mem_of_getElem? (i := 271) (by decide +kernel), List.mem_of_getElem? (i := 782) (by decide +kernel), List.mem_of_getElem? (i := 783) (by decide +kernel)⟩
theorem lw_p52 : lw_okq (⟨"HandedVoices$Wishes", "movers", "(I)I"⟩, 5) := ⟨⟨by decide +kernel, by decide +kernel⟩, List.mem_of_getElem? (i := 271) (by decide +kernel), List.mem_of_getElem? (i := 787) (by decide +kernel), List.mem_of_getElem? (i := 788) (by decide +kernel)⟩
theorem lw_p53 : lw_okq (⟨"HandedVoices$Wishes", "lastOtherwise", "(I)I"⟩, 5) := ⟨⟨by decide +kernel, by decide +kernel⟩, List.mem_of_getElem? (i := 271) (by decide +kernel), List.mem_of_getElem? (i := 800) (by decide +kernel), List.mem_of_getElem? (i := 801) (by decide +kernel)⟩
theorem lw_p54 : lw_okq (⟨"HandedVoices$Wishes", "decidedAt", "(II)Z"⟩, 5) := ⟨⟨by decide +kernel, by decide +kernel⟩, List.mem_of_getElem? (i := 271) (by decide +kernel), List.mem_of_getElem? (i := 804) (by decide +kernel), List.mem_of_getElem? (i := 805) (by decide +kernel)⟩
theorem lw_p55 : lw_okq (⟨"HandedVoices$Hands", "takenBackAt", "(II)I"⟩, 9) := ⟨⟨by decide +kernel, by decide +kernel⟩, List.mem_of_getElem? (i := 29) (by decide +kernel), List.mem_of_getElem? (i := 812) (by decide +kernel), List.mem_of_getElem? (i := 813) (by decide +kernel)⟩
theorem lw_p56 : lw_okq (⟨"HandedVoices$Wishes", "fewestToWin", "(I)I"⟩, 5) := ⟨⟨by decide +kernel, by decide +kernel⟩, List.mem_of_getElem? (i := 271) (by decide +kernel), List.mem_of_getElem? (i := 820) (by decide +kernel), List.mem_of_getElem? (i := 821) (by decide +kernel)⟩
theorem lw_p57 : lw_okq (⟨"HandedVoices$Tapes", "exists", "(I)Z"⟩, 3) := ⟨⟨by decide +kernel, by decide +kernel⟩, List.mem_of_getElem? (i := 317) (by decide +kernel), List.mem_of_getElem? (i := 828) (by decide +kernel), List.mem_of_getElem? (i := 829) (by decide +kernel)⟩
theorem lw_p58 : lw_okq (⟨"HandedVoices$Tapes", "get", "(II)J"⟩, 3) := ⟨⟨by decide +kernel, by decide +kernel⟩, List.mem_of_getElem? (i := 317) (by decide +kernel), List.mem_of_getElem? (i := 832) (by decide +kernel), List.mem_of_getElem? (i := 833) (by decide +kernel)⟩
theorem lw_p59 : lw_okq (⟨"HandedVoices$Acts", "clear", "()V"⟩, 5) := ⟨⟨by decide +kernel, by decide +kernel⟩, List.mem_of_getElem? (i := 293) (by decide +kernel), List.mem_of_getElem? (i := 840) (by decide +kernel), List.mem_of_getElem? (i := 841) (by decide +kernel)⟩
theorem lw_p60 : lw_okq (⟨"HandedVoices$Acts", "run", "(IIIII)I"⟩, 5) := ⟨⟨by decide +kernel, by decide +kernel⟩, List.mem_of_getElem? (i := 293) (by decide +kernel), List.mem_of_getElem? (i := 844) (by decide +kernel), List.mem_of_getElem? (i := 845) (by decide +kernel)⟩
theorem lw_p61 : lw_okq (⟨"HandedVoices$Acts", "gives", "(I)I"⟩, 5) := ⟨⟨by decide +kernel, by decide +kernel⟩, List.mem_of_getElem? (i := 293) (by decide +kernel), List.mem_of_getElem? (i := 848) (by decide +kernel), List.mem_of_getElem? (i := 849) (by decide +kernel)⟩
theorem lw_p62 : lw_okq (⟨"HandedVoices$Acts", "begin", "(I)V"⟩, 5) := ⟨⟨by decide +kernel, by decide +kernel⟩, List.mem_of_getElem? (i := 293) (by decide +kernel), List.mem_of_getElem? (i := 852) (by decide +kernel), List.mem_of_getElem? (i := 853) (by decide +kernel)⟩
theorem lw_p63 : lw_okq (⟨"HandedVoices$Acts", "holds", "(I)I"⟩, 5) := ⟨⟨by decide +kernel, by decide +kernel⟩, List.mem_of_getElem? (i := 293) (by decide +kernel), List.mem_of_getElem? (i := 856) (by decide +kernel), List.mem_of_getElem? (i := 857) (by decide +kernel)⟩
def lw_privs_4 : List (MethodName × Nat) := [(⟨"HandedVoices$Wishes", "firstBreach", "(I)I"⟩, 5), (⟨"HandedVoices$Wishes", "firstWish", "(I)I"⟩, 5), (⟨"HandedVoices$Tally", "highest", "()J"⟩, 10), (⟨"HandedVoices$Wishes", "bestMending", "(III)I"⟩, 5), (⟨"HandedVoices$Wishes", "movers", "(I)I"⟩, 5), (⟨"HandedVoices$Wishes", "lastOtherwise", "(I)I"⟩, 5), (⟨"HandedVoices$Wishes", "decidedAt", "(II)Z"⟩, 5), (⟨"HandedVoices$Hands", "takenBackAt", "(II)I"⟩, 9), (⟨"HandedVoices$Wishes", "fewestToWin", "(I)I"⟩, 5), (⟨"HandedVoices$Tapes", "exists", "(I)Z"⟩, 3), (⟨"HandedVoices$Tapes", "get", "(II)J"⟩, 3), (⟨"HandedVoices$Acts", "clear", "()V"⟩, 5), (⟨"HandedVoices$Acts", "run", "(IIIII)I"⟩, 5), (⟨"HandedVoices$Acts", "gives", "(I)I"⟩, 5), (⟨"HandedVoices$Acts", "begin", "(I)V"⟩, 5), (⟨"HandedVoices$Acts", "holds", "(I)I"⟩, 5)]
theorem lw_r4 : ∀ q ∈ lw_privs_4, lw_okq q := List.forall_mem_cons.mpr ⟨lw_p48, List.forall_mem_cons.mpr ⟨lw_p49, List.forall_mem_cons.mpr ⟨lw_p50, List.forall_mem_cons.mpr ⟨lw_p51, List.forall_mem_cons.mpr ⟨lw_p52, List.forall_mem_cons.mpr ⟨lw_p53, List.forall_mem_cons.mpr ⟨lw_p54, List.forall_mem_cons.mpr ⟨lw_p55, List.forall_mem_cons.mpr ⟨lw_p56, List.forall_mem_cons.mpr ⟨lw_p57, List.forall_mem_cons.mpr ⟨lw_p58, List.forall_mem_cons.mpr ⟨lw_p59, List.forall_mem_cons.mpr ⟨lw_p60, List.forall_mem_cons.mpr ⟨lw_p61, List.forall_mem_cons.mpr ⟨lw_p62, List.forall_mem_cons.mpr ⟨lw_p63, fun _ h => absurd h List.not_mem_nil⟩⟩⟩⟩⟩⟩⟩⟩⟩⟩⟩⟩⟩⟩⟩⟩
theorem lw_p64 : lw_okq (⟨"HandedVoices$Acts", "tells", "(I)I"⟩, 5) := ⟨⟨by decide +kernel, by decide +kernel⟩, List.mem_of_getElem? (i := 293) (by decide +kernel), List.mem_of_getElem? (i := 860) (by decide +kernel), List.mem_of_getElem? (i := 861) (by decide +kernel)⟩
theorem lw_p65 : lw_okq (⟨"HandedVoices$Acts", "tellsAsHand", "(I)I"⟩, 5) := ⟨⟨by decide +kernel, by decide +kernel⟩, List.mem_of_getElem? (i := 293) (by decide +kernel), List.mem_of_getElem? (i := 864) (by decide +kernel), List.mem_of_getElem? (i := 865) (by decide +kernel)⟩
theorem lw_p66 : lw_okq (⟨"HandedVoices$Acts", "kept", "()I"⟩, 5) := ⟨⟨by decide +kernel, by decide +kernel⟩, List.mem_of_getElem? (i := 293) (by decide +kernel), List.mem_of_getElem? (i := 872) (by decide +kernel), List.mem_of_getElem? (i := 873) (by decide +kernel)⟩
theorem lw_p67 : lw_okq (⟨"HandedVoices$Tapes", "reset", "(III)V"⟩, 3) := ⟨⟨by decide +kernel, by decide +kernel⟩, List.mem_of_getElem? (i := 317) (by decide +kernel), List.mem_of_getElem? (i := 891) (by decide +kernel), List.mem_of_getElem? (i := 892) (by decide +kernel)⟩
theorem lw_p68 : lw_okq (⟨"HandedVoices$Tapes", "put", "(IIJ)V"⟩, 3) := ⟨⟨by decide +kernel, by decide +kernel⟩, List.mem_of_getElem? (i := 317) (by decide +kernel), List.mem_of_getElem? (i := 899) (by decide +kernel), List.mem_of_getElem? (i := 900) (by decide +kernel)⟩
theorem lw_p69 : lw_okq (⟨"HandedVoices$Tapes", "holds", "(III)Z"⟩, 3) := ⟨⟨by decide +kernel, by decide +kernel⟩, List.mem_of_getElem? (i := 317) (by decide +kernel), List.mem_of_getElem? (i := 914) (by decide +kernel), List.mem_of_getElem? (i := 915) (by decide +kernel)⟩
theorem lw_p70 : lw_okq (⟨"HandedVoices$Tapes", "copy", "(IIIII)V"⟩, 3) := ⟨⟨by decide +kernel, by decide +kernel⟩, List.mem_of_getElem? (i := 317) (by decide +kernel), List.mem_of_getElem? (i := 918) (by decide +kernel), List.mem_of_getElem? (i := 919) (by decide +kernel)⟩
theorem lw_p71 : lw_okq (⟨"HandedVoicesModel", "put", "(IIIII)V"⟩, 52) := ⟨⟨by decide +kernel, by decide +kernel⟩, List.mem_of_getElem? (i := 925) (by decide +kernel), List.mem_of_getElem? (i := 1093) (by decide +kernel), List.mem_of_getElem? (i := 1094) (by decide +kernel)⟩
theorem lw_p72 : lw_okq (⟨"HandedVoicesModel", "isMember", "(I)Z"⟩, 52) := ⟨⟨by decide +kernel, by decide +kernel⟩, List.mem_of_getElem? (i := 925) (by decide +kernel), List.mem_of_getElem? (i := 1101) (by decide +kernel), List.mem_of_getElem? (i := 1102) (by decide +kernel)⟩
theorem lw_p73 : lw_okq (⟨"HandedVoicesModel", "in", "(III)Z"⟩, 52) := ⟨⟨by decide +kernel, by decide +kernel⟩, List.mem_of_getElem? (i := 925) (by decide +kernel), List.mem_of_getElem? (i := 1105) (by decide +kernel), List.mem_of_getElem? (i := 1106) (by decide +kernel)⟩
theorem lw_p74 : lw_okq (⟨"HandedVoicesModel", "isMatter", "(I)Z"⟩, 52) := ⟨⟨by decide +kernel, by decide +kernel⟩, List.mem_of_getElem? (i := 925) (by decide +kernel), List.mem_of_getElem? (i := 1109) (by decide +kernel), List.mem_of_getElem? (i := 1110) (by decide +kernel)⟩
theorem lw_p75 : lw_okq (⟨"HandedVoicesModel", "goes", "(I)Z"⟩, 52) := ⟨⟨by decide +kernel, by decide +kernel⟩, List.mem_of_getElem? (i := 925) (by decide +kernel), List.mem_of_getElem? (i := 1145) (by decide +kernel), List.mem_of_getElem? (i := 1146) (by decide +kernel)⟩
theorem lw_p76 : lw_okq (⟨"HandedVoicesModel", "takesClause", "()Z"⟩, 52) := ⟨⟨by decide +kernel, by decide +kernel⟩, List.mem_of_getElem? (i := 925) (by decide +kernel), List.mem_of_getElem? (i := 1149) (by decide +kernel), List.mem_of_getElem? (i := 1150) (by decide +kernel)⟩
theorem lw_p77 : lw_okq (⟨"HandedVoicesModel", "next", "()I"⟩, 52) := ⟨⟨by decide +kernel, by decide +kernel⟩, List.mem_of_getElem? (i := 925) (by decide +kernel), List.mem_of_getElem? (i := 1153) (by decide +kernel), List.mem_of_getElem? (i := 1154) (by decide +kernel)⟩
theorem lw_p78 : lw_okq (⟨"HandedVoicesModel", "takesWord", "(II)Z"⟩, 52) := ⟨⟨by decide +kernel, by decide +kernel⟩, List.mem_of_getElem? (i := 925) (by decide +kernel), List.mem_of_getElem? (i := 1157) (by decide +kernel), List.mem_of_getElem? (i := 1158) (by decide +kernel)⟩
theorem lw_p79 : lw_okq (⟨"HandedVoicesModel", "takes", "(I)Z"⟩, 52) := ⟨⟨by decide +kernel, by decide +kernel⟩, List.mem_of_getElem? (i := 925) (by decide +kernel), List.mem_of_getElem? (i := 1161) (by decide +kernel), List.mem_of_getElem? (i := 1162) (by decide +kernel)⟩
def lw_privs_5 : List (MethodName × Nat) := [(⟨"HandedVoices$Acts", "tells", "(I)I"⟩, 5), (⟨"HandedVoices$Acts", "tellsAsHand", "(I)I"⟩, 5), (⟨"HandedVoices$Acts", "kept", "()I"⟩, 5), (⟨"HandedVoices$Tapes", "reset", "(III)V"⟩, 3), (⟨"HandedVoices$Tapes", "put", "(IIJ)V"⟩, 3), (⟨"HandedVoices$Tapes", "holds", "(III)Z"⟩, 3), (⟨"HandedVoices$Tapes", "copy", "(IIIII)V"⟩, 3), (⟨"HandedVoicesModel", "put", "(IIIII)V"⟩, 52), (⟨"HandedVoicesModel", "isMember", "(I)Z"⟩, 52), (⟨"HandedVoicesModel", "in", "(III)Z"⟩, 52), (⟨"HandedVoicesModel", "isMatter", "(I)Z"⟩, 52), (⟨"HandedVoicesModel", "goes", "(I)Z"⟩, 52), (⟨"HandedVoicesModel", "takesClause", "()Z"⟩, 52), (⟨"HandedVoicesModel", "next", "()I"⟩, 52), (⟨"HandedVoicesModel", "takesWord", "(II)Z"⟩, 52), (⟨"HandedVoicesModel", "takes", "(I)Z"⟩, 52)]
theorem lw_r5 : ∀ q ∈ lw_privs_5, lw_okq q := List.forall_mem_cons.mpr ⟨lw_p64, List.forall_mem_cons.mpr ⟨lw_p65, List.forall_mem_cons.mpr ⟨lw_p66, List.forall_mem_cons.mpr ⟨lw_p67, List.forall_mem_cons.mpr ⟨lw_p68, List.forall_mem_cons.mpr ⟨lw_p69, List.forall_mem_cons.mpr ⟨lw_p70, List.forall_mem_cons.mpr ⟨lw_p71, List.forall_mem_cons.mpr ⟨lw_p72, List.forall_mem_cons.mpr ⟨lw_p73, List.forall_mem_cons.mpr ⟨lw_p74, List.forall_mem_cons.mpr ⟨lw_p75, List.forall_mem_cons.mpr ⟨lw_p76, List.forall_mem_cons.mpr ⟨lw_p77, List.forall_mem_cons.mpr ⟨lw_p78, List.forall_mem_cons.mpr ⟨lw_p79, fun _ h => absurd h List.not_mem_nil⟩⟩⟩⟩⟩⟩⟩⟩⟩⟩⟩⟩⟩⟩⟩⟩
theorem lw_p80 : lw_okq (⟨"HandedVoicesModel", "takesE", "()Z"⟩, 52) := ⟨⟨by decide +kernel, by decide +kernel⟩, List.mem_of_getElem? (i := 925) (by decide +kernel), List.mem_of_getElem? (i := 1165) (by decide +kernel), List.mem_of_getElem? (i := 1166) (by decide +kernel)⟩
theorem lw_p81 : lw_okq (⟨"HandedVoicesModel", "takesTest", "()Z"⟩, 52) := ⟨⟨by decide +kernel, by decide +kernel⟩, List.mem_of_getElem? (i := 925) (by decide +kernel), List.mem_of_getElem? (i := 1169) (by decide +kernel), List.mem_of_getElem? (i := 1170) (by decide +kernel)⟩
theorem lw_p82 : lw_okq (⟨"HandedVoicesModel", "takesNumber", "(Z)Z"⟩, 52) := ⟨⟨by decide +kernel, by decide +kernel⟩, List.mem_of_getElem? (i := 925) (by decide +kernel), List.mem_of_getElem? (i := 1173) (by decide +kernel), List.mem_of_getElem? (i := 1174) (by decide +kernel)⟩
theorem lw_p83 : lw_okq (⟨"HandedVoicesModel", "isDigit", "()Z"⟩, 52) := ⟨⟨by decide +kernel, by decide +kernel⟩, List.mem_of_getElem? (i := 925) (by decide +kernel), List.mem_of_getElem? (i := 1177) (by decide +kernel), List.mem_of_getElem? (i := 1178) (by decide +kernel)⟩
theorem lw_p84 : lw_okq (⟨"HandedVoicesModel", "push", "(Z)V"⟩, 52) := ⟨⟨by decide +kernel, by decide +kernel⟩, List.mem_of_getElem? (i := 925) (by decide +kernel), List.mem_of_getElem? (i := 1181) (by decide +kernel), List.mem_of_getElem? (i := 1182) (by decide +kernel)⟩
theorem lw_p85 : lw_okq (⟨"HandedVoicesModel", "settleSigns", "(I)V"⟩, 52) := ⟨⟨by decide +kernel, by decide +kernel⟩, List.mem_of_getElem? (i := 925) (by decide +kernel), List.mem_of_getElem? (i := 1185) (by decide +kernel), List.mem_of_getElem? (i := 1186) (by decide +kernel)⟩
theorem lw_p86 : lw_okq (⟨"HandedVoicesModel", "takesNeed", "()Z"⟩, 52) := ⟨⟨by decide +kernel, by decide +kernel⟩, List.mem_of_getElem? (i := 925) (by decide +kernel), List.mem_of_getElem? (i := 1189) (by decide +kernel), List.mem_of_getElem? (i := 1190) (by decide +kernel)⟩
theorem lw_p87 : lw_okq (⟨"HandedVoicesModel", "isBar", "(III)Z"⟩, 52) := ⟨⟨by decide +kernel, by decide +kernel⟩, List.mem_of_getElem? (i := 925) (by decide +kernel), List.mem_of_getElem? (i := 1199) (by decide +kernel), List.mem_of_getElem? (i := 1200) (by decide +kernel)⟩
theorem lw_p88 : lw_okq (⟨"HandedVoicesModel", "findAll", "(II)V"⟩, 52) := ⟨⟨by decide +kernel, by decide +kernel⟩, List.mem_of_getElem? (i := 925) (by decide +kernel), List.mem_of_getElem? (i := 1207) (by decide +kernel), List.mem_of_getElem? (i := 1208) (by decide +kernel)⟩
theorem lw_p89 : lw_okq (⟨"HandedVoicesModel", "findHands", "(II)V"⟩, 52) := ⟨⟨by decide +kernel, by decide +kernel⟩, List.mem_of_getElem? (i := 925) (by decide +kernel), List.mem_of_getElem? (i := 1211) (by decide +kernel), List.mem_of_getElem? (i := 1212) (by decide +kernel)⟩
theorem lw_p90 : lw_okq (⟨"HandedVoicesModel", "findHand", "(II)V"⟩, 52) := ⟨⟨by decide +kernel, by decide +kernel⟩, List.mem_of_getElem? (i := 925) (by decide +kernel), List.mem_of_getElem? (i := 1215) (by decide +kernel), List.mem_of_getElem? (i := 1216) (by decide +kernel)⟩
theorem lw_p91 : lw_okq (⟨"HandedVoicesModel", "hands", "(IIII)V"⟩, 52) := ⟨⟨by decide +kernel, by decide +kernel⟩, List.mem_of_getElem? (i := 925) (by decide +kernel), List.mem_of_getElem? (i := 1219) (by decide +kernel), List.mem_of_getElem? (i := 1220) (by decide +kernel)⟩
theorem lw_p92 : lw_okq (⟨"HandedVoicesModel", "surestOf", "(II)I"⟩, 52) := ⟨⟨by decide +kernel, by decide +kernel⟩, List.mem_of_getElem? (i := 925) (by decide +kernel), List.mem_of_getElem? (i := 1223) (by decide +kernel), List.mem_of_getElem? (i := 1224) (by decide +kernel)⟩
theorem lw_p93 : lw_okq (⟨"HandedVoicesModel", "findBest", "(I)V"⟩, 52) := ⟨⟨by decide +kernel, by decide +kernel⟩, List.mem_of_getElem? (i := 925) (by decide +kernel), List.mem_of_getElem? (i := 1227) (by decide +kernel), List.mem_of_getElem? (i := 1228) (by decide +kernel)⟩
theorem lw_p94 : lw_okq (⟨"HandedVoicesModel", "isOrder", "(II)Z"⟩, 52) := ⟨⟨by decide +kernel, by decide +kernel⟩, List.mem_of_getElem? (i := 925) (by decide +kernel), List.mem_of_getElem? (i := 1231) (by decide +kernel), List.mem_of_getElem? (i := 1232) (by decide +kernel)⟩
theorem lw_p95 : lw_okq (⟨"HandedVoicesModel", "putOrders", "(II)Z"⟩, 52) := ⟨⟨by decide +kernel, by decide +kernel⟩, List.mem_of_getElem? (i := 925) (by decide +kernel), List.mem_of_getElem? (i := 1235) (by decide +kernel), List.mem_of_getElem? (i := 1236) (by decide +kernel)⟩
def lw_privs_6 : List (MethodName × Nat) := [(⟨"HandedVoicesModel", "takesE", "()Z"⟩, 52), (⟨"HandedVoicesModel", "takesTest", "()Z"⟩, 52), (⟨"HandedVoicesModel", "takesNumber", "(Z)Z"⟩, 52), (⟨"HandedVoicesModel", "isDigit", "()Z"⟩, 52), (⟨"HandedVoicesModel", "push", "(Z)V"⟩, 52), (⟨"HandedVoicesModel", "settleSigns", "(I)V"⟩, 52), (⟨"HandedVoicesModel", "takesNeed", "()Z"⟩, 52), (⟨"HandedVoicesModel", "isBar", "(III)Z"⟩, 52), (⟨"HandedVoicesModel", "findAll", "(II)V"⟩, 52), (⟨"HandedVoicesModel", "findHands", "(II)V"⟩, 52), (⟨"HandedVoicesModel", "findHand", "(II)V"⟩, 52), (⟨"HandedVoicesModel", "hands", "(IIII)V"⟩, 52), (⟨"HandedVoicesModel", "surestOf", "(II)I"⟩, 52), (⟨"HandedVoicesModel", "findBest", "(I)V"⟩, 52), (⟨"HandedVoicesModel", "isOrder", "(II)Z"⟩, 52), (⟨"HandedVoicesModel", "putOrders", "(II)Z"⟩, 52)]
theorem lw_r6 : ∀ q ∈ lw_privs_6, lw_okq q := List.forall_mem_cons.mpr ⟨lw_p80, List.forall_mem_cons.mpr ⟨lw_p81, List.forall_mem_cons.mpr ⟨lw_p82, List.forall_mem_cons.mpr ⟨lw_p83, List.forall_mem_cons.mpr ⟨lw_p84, List.forall_mem_cons.mpr ⟨lw_p85, List.forall_mem_cons.mpr ⟨lw_p86, List.forall_mem_cons.mpr ⟨lw_p87, List.forall_mem_cons.mpr ⟨lw_p88, List.forall_mem_cons.mpr ⟨lw_p89, List.forall_mem_cons.mpr ⟨lw_p90, List.forall_mem_cons.mpr ⟨lw_p91, List.forall_mem_cons.mpr ⟨lw_p92, List.forall_mem_cons.mpr ⟨lw_p93, List.forall_mem_cons.mpr ⟨lw_p94, List.forall_mem_cons.mpr ⟨lw_p95, fun _ h => absurd h List.not_mem_nil⟩⟩⟩⟩⟩⟩⟩⟩⟩⟩⟩⟩⟩⟩⟩⟩
theorem lw_p96 : lw_okq (⟨"HandedVoicesModel", "has", "(II)Z"⟩, 52) := ⟨⟨by decide +kernel, by decide +kernel⟩, List.mem_of_getElem? (i := 925) (by decide +kernel), List.mem_of_getElem? (i := 1239) (by decide +kernel), List.mem_of_getElem? (i := 1240) (by decide +kernel)⟩
theorem lw_p97 : lw_okq (⟨"HandedVoicesModel", "lostNow", "()I"⟩, 52) := ⟨⟨by decide +kernel, by decide +kernel⟩, List.mem_of_getElem? (i := 925) (by decide +kernel), List.mem_of_getElem? (i := 1243) (by decide +kernel), List.mem_of_getElem? (i := 1244) (by decide +kernel)⟩
theorem lw_p98 : lw_okq (⟨"HandedVoicesModel", "ones", "(I)I"⟩, 52) := ⟨⟨by decide +kernel, by decide +kernel⟩, List.mem_of_getElem? (i := 925) (by decide +kernel), List.mem_of_getElem? (i := 1247) (by decide +kernel), List.mem_of_getElem? (i := 1248) (by decide +kernel)⟩
theorem lw_p99 : lw_okq (⟨"HandedVoicesModel", "findVoices", "(II)V"⟩, 52) := ⟨⟨by decide +kernel, by decide +kernel⟩, List.mem_of_getElem? (i := 925) (by decide +kernel), List.mem_of_getElem? (i := 1256) (by decide +kernel), List.mem_of_getElem? (i := 1257) (by decide +kernel)⟩
theorem lw_p100 : lw_okq (⟨"HandedVoicesModel", "unroll", "()V"⟩, 52) := ⟨⟨by decide +kernel, by decide +kernel⟩, List.mem_of_getElem? (i := 925) (by decide +kernel), List.mem_of_getElem? (i := 1260) (by decide +kernel), List.mem_of_getElem? (i := 1261) (by decide +kernel)⟩
theorem lw_p101 : lw_okq (⟨"HandedVoicesModel", "part", "(JJI)J"⟩, 52) := ⟨⟨by decide +kernel, by decide +kernel⟩, List.mem_of_getElem? (i := 925) (by decide +kernel), List.mem_of_getElem? (i := 1265) (by decide +kernel), List.mem_of_getElem? (i := 1266) (by decide +kernel)⟩
theorem lw_p102 : lw_okq (⟨"HandedVoicesModel", "divisor", "(JJ)J"⟩, 52) := ⟨⟨by decide +kernel, by decide +kernel⟩, List.mem_of_getElem? (i := 925) (by decide +kernel), List.mem_of_getElem? (i := 1269) (by decide +kernel), List.mem_of_getElem? (i := 1270) (by decide +kernel)⟩
theorem lw_p103 : lw_okq (⟨"HandedVoicesModel", "thinks", "(I)I"⟩, 52) := ⟨⟨by decide +kernel, by decide +kernel⟩, List.mem_of_getElem? (i := 925) (by decide +kernel), List.mem_of_getElem? (i := 1281) (by decide +kernel), List.mem_of_getElem? (i := 1282) (by decide +kernel)⟩
theorem lw_p104 : lw_okq (⟨"HandedVoicesModel", "decides", "(I)Z"⟩, 52) := ⟨⟨by decide +kernel, by decide +kernel⟩, List.mem_of_getElem? (i := 925) (by decide +kernel), List.mem_of_getElem? (i := 1285) (by decide +kernel), List.mem_of_getElem? (i := 1286) (by decide +kernel)⟩
theorem lw_p105 : lw_okq (⟨"HandedVoicesModel", "speaking", "()I"⟩, 52) := ⟨⟨by decide +kernel, by decide +kernel⟩, List.mem_of_getElem? (i := 925) (by decide +kernel), List.mem_of_getElem? (i := 1297) (by decide +kernel), List.mem_of_getElem? (i := 1298) (by decide +kernel)⟩
theorem lw_p106 : lw_okq (⟨"HandedVoicesModel", "findAlone", "()V"⟩, 52) := ⟨⟨by decide +kernel, by decide +kernel⟩, List.mem_of_getElem? (i := 925) (by decide +kernel), List.mem_of_getElem? (i := 1313) (by decide +kernel), List.mem_of_getElem? (i := 1314) (by decide +kernel)⟩
theorem lw_p107 : lw_okq (⟨"HandedVoicesModel", "findRight", "(I)V"⟩, 52) := ⟨⟨by decide +kernel, by decide +kernel⟩, List.mem_of_getElem? (i := 925) (by decide +kernel), List.mem_of_getElem? (i := 1317) (by decide +kernel), List.mem_of_getElem? (i := 1318) (by decide +kernel)⟩
theorem lw_p108 : lw_okq (⟨"HandedVoicesModel", "keep", "(II)V"⟩, 52) := ⟨⟨by decide +kernel, by decide +kernel⟩, List.mem_of_getElem? (i := 925) (by decide +kernel), List.mem_of_getElem? (i := 1329) (by decide +kernel), List.mem_of_getElem? (i := 1330) (by decide +kernel)⟩
theorem lw_p109 : lw_okq (⟨"HandedVoicesModel", "putBack", "(II)V"⟩, 52) := ⟨⟨by decide +kernel, by decide +kernel⟩, List.mem_of_getElem? (i := 925) (by decide +kernel), List.mem_of_getElem? (i := 1333) (by decide +kernel), List.mem_of_getElem? (i := 1334) (by decide +kernel)⟩
theorem lw_p110 : lw_okq (⟨"HandedVoicesModel", "isLess", "(JJJJ)Z"⟩, 52) := ⟨⟨by decide +kernel, by decide +kernel⟩, List.mem_of_getElem? (i := 925) (by decide +kernel), List.mem_of_getElem? (i := 1337) (by decide +kernel), List.mem_of_getElem? (i := 1338) (by decide +kernel)⟩
theorem lw_p111 : lw_okq (⟨"HandedVoicesModel", "ratherOf", "(I)I"⟩, 52) := ⟨⟨by decide +kernel, by decide +kernel⟩, List.mem_of_getElem? (i := 925) (by decide +kernel), List.mem_of_getElem? (i := 1345) (by decide +kernel), List.mem_of_getElem? (i := 1346) (by decide +kernel)⟩
def lw_privs_7 : List (MethodName × Nat) := [(⟨"HandedVoicesModel", "has", "(II)Z"⟩, 52), (⟨"HandedVoicesModel", "lostNow", "()I"⟩, 52), (⟨"HandedVoicesModel", "ones", "(I)I"⟩, 52), (⟨"HandedVoicesModel", "findVoices", "(II)V"⟩, 52), (⟨"HandedVoicesModel", "unroll", "()V"⟩, 52), (⟨"HandedVoicesModel", "part", "(JJI)J"⟩, 52), (⟨"HandedVoicesModel", "divisor", "(JJ)J"⟩, 52), (⟨"HandedVoicesModel", "thinks", "(I)I"⟩, 52), (⟨"HandedVoicesModel", "decides", "(I)Z"⟩, 52), (⟨"HandedVoicesModel", "speaking", "()I"⟩, 52), (⟨"HandedVoicesModel", "findAlone", "()V"⟩, 52), (⟨"HandedVoicesModel", "findRight", "(I)V"⟩, 52), (⟨"HandedVoicesModel", "keep", "(II)V"⟩, 52), (⟨"HandedVoicesModel", "putBack", "(II)V"⟩, 52), (⟨"HandedVoicesModel", "isLess", "(JJJJ)Z"⟩, 52), (⟨"HandedVoicesModel", "ratherOf", "(I)I"⟩, 52)]
theorem lw_r7 : ∀ q ∈ lw_privs_7, lw_okq q := List.forall_mem_cons.mpr ⟨lw_p96, List.forall_mem_cons.mpr ⟨lw_p97, List.forall_mem_cons.mpr ⟨lw_p98, List.forall_mem_cons.mpr ⟨lw_p99, List.forall_mem_cons.mpr ⟨lw_p100, List.forall_mem_cons.mpr ⟨lw_p101, List.forall_mem_cons.mpr ⟨lw_p102, List.forall_mem_cons.mpr ⟨lw_p103, List.forall_mem_cons.mpr ⟨lw_p104, List.forall_mem_cons.mpr ⟨lw_p105, List.forall_mem_cons.mpr ⟨lw_p106, List.forall_mem_cons.mpr ⟨lw_p107, List.forall_mem_cons.mpr ⟨lw_p108, List.forall_mem_cons.mpr ⟨lw_p109, List.forall_mem_cons.mpr ⟨lw_p110, List.forall_mem_cons.mpr ⟨lw_p111, fun _ h => absurd h List.not_mem_nil⟩⟩⟩⟩⟩⟩⟩⟩⟩⟩⟩⟩⟩⟩⟩⟩
theorem lw_p112 : lw_okq (⟨"HandedVoicesModel", "heapOf", "()J"⟩, 52) := ⟨⟨by decide +kernel, by decide +kernel⟩, List.mem_of_getElem? (i := 925) (by decide +kernel), List.mem_of_getElem? (i := 1357) (by decide +kernel), List.mem_of_getElem? (i := 1358) (by decide +kernel)⟩
theorem lw_p113 : lw_okq (⟨"HandedVoicesModel", "asSelf", "(II)V"⟩, 52) := ⟨⟨by decide +kernel, by decide +kernel⟩, List.mem_of_getElem? (i := 925) (by decide +kernel), List.mem_of_getElem? (i := 1365) (by decide +kernel), List.mem_of_getElem? (i := 1366) (by decide +kernel)⟩
theorem lw_p114 : lw_okq (⟨"HandedVoicesModel", "asBefore", "(I)V"⟩, 52) := ⟨⟨by decide +kernel, by decide +kernel⟩, List.mem_of_getElem? (i := 925) (by decide +kernel), List.mem_of_getElem? (i := 1369) (by decide +kernel), List.mem_of_getElem? (i := 1370) (by decide +kernel)⟩
theorem lw_p115 : lw_okq (⟨"HandedVoicesModel", "isTape", "(I)Z"⟩, 52) := ⟨⟨by decide +kernel, by decide +kernel⟩, List.mem_of_getElem? (i := 925) (by decide +kernel), List.mem_of_getElem? (i := 1385) (by decide +kernel), List.mem_of_getElem? (i := 1386) (by decide +kernel)⟩
theorem lw_p116 : lw_okq (⟨"HandedVoicesModel", "gives", "(III)I"⟩, 52) := ⟨⟨by decide +kernel, by decide +kernel⟩, List.mem_of_getElem? (i := 925) (by decide +kernel), List.mem_of_getElem? (i := 1393) (by decide +kernel), List.mem_of_getElem? (i := 1394) (by decide +kernel)⟩
theorem lw_p117 : lw_okq (⟨"HandedVoicesModel", "body", "(I)V"⟩, 52) := ⟨⟨by decide +kernel, by decide +kernel⟩, List.mem_of_getElem? (i := 925) (by decide +kernel), List.mem_of_getElem? (i := 1397) (by decide +kernel), List.mem_of_getElem? (i := 1398) (by decide +kernel)⟩
theorem lw_p118 : lw_okq (⟨"HandedVoicesModel", "giveGives", "(II)I"⟩, 52) := ⟨⟨by decide +kernel, by decide +kernel⟩, List.mem_of_getElem? (i := 925) (by decide +kernel), List.mem_of_getElem? (i := 1401) (by decide +kernel), List.mem_of_getElem? (i := 1402) (by decide +kernel)⟩
theorem lw_p119 : lw_okq (⟨"HandedVoicesModel", "plainGives", "(II)I"⟩, 52) := ⟨⟨by decide +kernel, by decide +kernel⟩, List.mem_of_getElem? (i := 925) (by decide +kernel), List.mem_of_getElem? (i := 1405) (by decide +kernel), List.mem_of_getElem? (i := 1406) (by decide +kernel)⟩
theorem lw_p120 : lw_okq (⟨"HandedVoicesModel", "holds", "(III)I"⟩, 52) := ⟨⟨by decide +kernel, by decide +kernel⟩, List.mem_of_getElem? (i := 925) (by decide +kernel), List.mem_of_getElem? (i := 1409) (by decide +kernel), List.mem_of_getElem? (i := 1410) (by decide +kernel)⟩
theorem lw_p121 : lw_okq (⟨"HandedVoicesModel", "giveHolds", "(III)I"⟩, 52) := ⟨⟨by decide +kernel, by decide +kernel⟩, List.mem_of_getElem? (i := 925) (by decide +kernel), List.mem_of_getElem? (i := 1413) (by decide +kernel), List.mem_of_getElem? (i := 1414) (by decide +kernel)⟩
theorem lw_p122 : lw_okq (⟨"HandedVoicesModel", "plainHolds", "(III)I"⟩, 52) := ⟨⟨by decide +kernel, by decide +kernel⟩, List.mem_of_getElem? (i := 925) (by decide +kernel), List.mem_of_getElem? (i := 1417) (by decide +kernel), List.mem_of_getElem? (i := 1418) (by decide +kernel)⟩
theorem lw_p123 : lw_okq (⟨"HandedVoicesModel", "tells", "(III)I"⟩, 52) := ⟨⟨by decide +kernel, by decide +kernel⟩, List.mem_of_getElem? (i := 925) (by decide +kernel), List.mem_of_getElem? (i := 1421) (by decide +kernel), List.mem_of_getElem? (i := 1422) (by decide +kernel)⟩
theorem lw_p124 : lw_okq (⟨"HandedVoicesModel", "plainTells", "(III)I"⟩, 52) := ⟨⟨by decide +kernel, by decide +kernel⟩, List.mem_of_getElem? (i := 925) (by decide +kernel), List.mem_of_getElem? (i := 1425) (by decide +kernel), List.mem_of_getElem? (i := 1426) (by decide +kernel)⟩
theorem lw_p125 : lw_okq (⟨"HandedVoicesModel", "narrow", "(IJ)J"⟩, 52) := ⟨⟨by decide +kernel, by decide +kernel⟩, List.mem_of_getElem? (i := 925) (by decide +kernel), List.mem_of_getElem? (i := 1449) (by decide +kernel), List.mem_of_getElem? (i := 1450) (by decide +kernel)⟩
def lw_privs_8 : List (MethodName × Nat) := [(⟨"HandedVoicesModel", "heapOf", "()J"⟩, 52), (⟨"HandedVoicesModel", "asSelf", "(II)V"⟩, 52), (⟨"HandedVoicesModel", "asBefore", "(I)V"⟩, 52), (⟨"HandedVoicesModel", "isTape", "(I)Z"⟩, 52), (⟨"HandedVoicesModel", "gives", "(III)I"⟩, 52), (⟨"HandedVoicesModel", "body", "(I)V"⟩, 52), (⟨"HandedVoicesModel", "giveGives", "(II)I"⟩, 52), (⟨"HandedVoicesModel", "plainGives", "(II)I"⟩, 52), (⟨"HandedVoicesModel", "holds", "(III)I"⟩, 52), (⟨"HandedVoicesModel", "giveHolds", "(III)I"⟩, 52), (⟨"HandedVoicesModel", "plainHolds", "(III)I"⟩, 52), (⟨"HandedVoicesModel", "tells", "(III)I"⟩, 52), (⟨"HandedVoicesModel", "plainTells", "(III)I"⟩, 52), (⟨"HandedVoicesModel", "narrow", "(IJ)J"⟩, 52)]
theorem lw_r8 : ∀ q ∈ lw_privs_8, lw_okq q := List.forall_mem_cons.mpr ⟨lw_p112, List.forall_mem_cons.mpr ⟨lw_p113, List.forall_mem_cons.mpr ⟨lw_p114, List.forall_mem_cons.mpr ⟨lw_p115, List.forall_mem_cons.mpr ⟨lw_p116, List.forall_mem_cons.mpr ⟨lw_p117, List.forall_mem_cons.mpr ⟨lw_p118, List.forall_mem_cons.mpr ⟨lw_p119, List.forall_mem_cons.mpr ⟨lw_p120, List.forall_mem_cons.mpr ⟨lw_p121, List.forall_mem_cons.mpr ⟨lw_p122, List.forall_mem_cons.mpr ⟨lw_p123, List.forall_mem_cons.mpr ⟨lw_p124, List.forall_mem_cons.mpr ⟨lw_p125, fun _ h => absurd h List.not_mem_nil⟩⟩⟩⟩⟩⟩⟩⟩⟩⟩⟩⟩⟩⟩
def lw_privs : List (MethodName × Nat) := lw_privs_1 ++ (lw_privs_2 ++ (lw_privs_3 ++ (lw_privs_4 ++ (lw_privs_5 ++ (lw_privs_6 ++ (lw_privs_7 ++ (lw_privs_8)))))))
def lw_tbl : List Cond := k2_sels lw_privs ++ tables_1
theorem lw_privs_ok : ∀ q ∈ lw_privs, lw_okq q := by
  show ∀ q ∈ lw_privs_1 ++ (lw_privs_2 ++ (lw_privs_3 ++ (lw_privs_4 ++ (lw_privs_5 ++ (lw_privs_6 ++ (lw_privs_7 ++ (lw_privs_8))))))), lw_okq q
  exact List.forall_mem_append.mpr ⟨lw_r1, List.forall_mem_append.mpr ⟨lw_r2, List.forall_mem_append.mpr ⟨lw_r3, List.forall_mem_append.mpr ⟨lw_r4, List.forall_mem_append.mpr ⟨lw_r5, List.forall_mem_append.mpr ⟨lw_r6, List.forall_mem_append.mpr ⟨lw_r7, lw_r8⟩⟩⟩⟩⟩⟩⟩
-- names, printed of the program
def RX0 : String := "HandedVoices$Acts"
def TX0 : u_T := fun k => match k with
  | 0 => ("HandedVoices$Acts", "numbers", "[I", true)
  | 1 => ("HandedVoices$Acts", "bodies", "I", false)
  | 2 => ("HandedVoices$Acts", "kind", "I", false)
  | 3 => ("HandedVoices$Acts", "seat", "I", false)
  | _ => ("HandedVoices$Acts", "topic", "I", false)
def tyX0 : Nat → FieldType := fun k => match k with
  | 0 => .array .int
  | 1 => .int
  | 2 => .int
  | 3 => .int
  | _ => .int
theorem nmX0 : ∀ a, a < 5 → ∀ b, b < 5 → a ≠ b → (TX0 a).2.1 ≠ (TX0 b).2.1 := by decide +kernel
theorem tyX0_ok : ∀ k, k < 5 → parseFieldDescriptor (TX0 k).2.2.1 = some (tyX0 k) := by decide +kernel
abbrev cX0_init : ByteArray := prog_2_method_1_code
def yX0_init : MethodName := ⟨RX0, "<init>", "()V"⟩
abbrev cX0_clear : ByteArray := prog_2_method_2_code
def yX0_clear : MethodName := ⟨RX0, "clear", "()V"⟩
abbrev cX0_kept : ByteArray := prog_2_method_3_code
def yX0_kept : MethodName := ⟨RX0, "kept", "()I"⟩
abbrev cX0_run : ByteArray := prog_2_method_4_code
def yX0_run : MethodName := ⟨RX0, "run", "(IIIII)I"⟩
abbrev cX0_begin : ByteArray := prog_2_method_5_code
def yX0_begin : MethodName := ⟨RX0, "begin", "(I)V"⟩
abbrev cX0_gives : ByteArray := prog_2_method_6_code
def yX0_gives : MethodName := ⟨RX0, "gives", "(I)I"⟩
abbrev cX0_holds : ByteArray := prog_2_method_7_code
def yX0_holds : MethodName := ⟨RX0, "holds", "(I)I"⟩
abbrev cX0_tells : ByteArray := prog_2_method_8_code
def yX0_tells : MethodName := ⟨RX0, "tells", "(I)I"⟩
abbrev cX0_tellsAsHand : ByteArray := prog_2_method_9_code
def yX0_tellsAsHand : MethodName := ⟨RX0, "tellsAsHand", "(I)I"⟩
def RX1 : String := "HandedVoices$HallText"
def TX1 : u_T := fun k => match k with
  | 0 => ("HandedVoices$HallText", "bytes", "[I", true)
  | 1 => ("HandedVoices$HallText", "size", "I", false)
  | 2 => ("HandedVoices$HallText", "place", "I", false)
  | 3 => ("HandedVoices$HallText", "number", "I", false)
  | 4 => ("HandedVoices$HallText", "figures", "I", false)
  | _ => ("HandedVoices$HallText", "draft", "LHandedVoices$Rules;", false)
def tyX1 : Nat → FieldType := fun k => match k with
  | 0 => .array .int
  | 1 => .int
  | 2 => .int
  | 3 => .int
  | 4 => .int
  | _ => .object "HandedVoices$Rules"
theorem nmX1 : ∀ a, a < 6 → ∀ b, b < 6 → a ≠ b → (TX1 a).2.1 ≠ (TX1 b).2.1 := by decide +kernel
theorem tyX1_ok : ∀ k, k < 6 → parseFieldDescriptor (TX1 k).2.2.1 = some (tyX1 k) := by decide +kernel
abbrev cX1_init : ByteArray := prog_3_method_1_code
def yX1_init : MethodName := ⟨RX1, "<init>", "()V"⟩
abbrev cX1_append : ByteArray := prog_3_method_2_code
def yX1_append : MethodName := ⟨RX1, "append", "(I)V"⟩
abbrev cX1_fault : ByteArray := prog_3_method_3_code
def yX1_fault : MethodName := ⟨RX1, "fault", "()I"⟩
abbrev cX1_seen : ByteArray := prog_3_method_4_code
def yX1_seen : MethodName := ⟨RX1, "seen", "()I"⟩
abbrev cX1_clause : ByteArray := prog_3_method_5_code
def yX1_clause : MethodName := ⟨RX1, "clause", "()Z"⟩
abbrev cX1_word : ByteArray := prog_3_method_6_code
def yX1_word : MethodName := ⟨RX1, "word", "(Ljava/lang/String;)Z"⟩
abbrev cX1_need : ByteArray := prog_3_method_7_code
def yX1_need : MethodName := ⟨RX1, "need", "()Z"⟩
abbrev cX1_ring : ByteArray := prog_3_method_8_code
def yX1_ring : MethodName := ⟨RX1, "ring", "()Z"⟩
abbrev cX1_figuresOf : ByteArray := prog_3_method_9_code
def yX1_figuresOf : MethodName := ⟨RX1, "figuresOf", "()Z"⟩
abbrev cX1_either : ByteArray := prog_3_method_10_code
def yX1_either : MethodName := ⟨RX1, "either", "(I)Z"⟩
abbrev cX1_single : ByteArray := prog_3_method_11_code
def yX1_single : MethodName := ⟨RX1, "single", "(I)Z"⟩
abbrev cX1_test : ByteArray := prog_3_method_12_code
def yX1_test : MethodName := ⟨RX1, "test", "()Z"⟩
abbrev cX1_signOf : ByteArray := prog_3_method_13_code
def yX1_signOf : MethodName := ⟨RX1, "signOf", "(Ljava/lang/String;)I"⟩
def RX2 : String := "HandedVoices$Hands"
def TX2 : u_T := fun k => match k with
  | 0 => ("HandedVoices$Hands", "yes", "[I", true)
  | 1 => ("HandedVoices$Hands", "sure", "[I", true)
  | 2 => ("HandedVoices$Hands", "kind", "[I", true)
  | 3 => ("HandedVoices$Hands", "until", "[I", true)
  | 4 => ("HandedVoices$Hands", "first", "[I", true)
  | 5 => ("HandedVoices$Hands", "second", "[I", true)
  | 6 => ("HandedVoices$Hands", "tenths", "[I", true)
  | 7 => ("HandedVoices$Hands", "members", "I", false)
  | _ => ("HandedVoices$Hands", "now", "I", false)
def tyX2 : Nat → FieldType := fun k => match k with
  | 0 => .array .int
  | 1 => .array .int
  | 2 => .array .int
  | 3 => .array .int
  | 4 => .array .int
  | 5 => .array .int
  | 6 => .array .int
  | 7 => .int
  | _ => .int
theorem nmX2 : ∀ a, a < 9 → ∀ b, b < 9 → a ≠ b → (TX2 a).2.1 ≠ (TX2 b).2.1 := by decide +kernel
theorem tyX2_ok : ∀ k, k < 9 → parseFieldDescriptor (TX2 k).2.2.1 = some (tyX2 k) := by decide +kernel
abbrev cX2_init : ByteArray := prog_4_method_1_code
def yX2_init : MethodName := ⟨RX2, "<init>", "()V"⟩
abbrev cX2_sits : ByteArray := prog_4_method_2_code
def yX2_sits : MethodName := ⟨RX2, "sits", "(I)Z"⟩
abbrev cX2_opinion : ByteArray := prog_4_method_3_code
def yX2_opinion : MethodName := ⟨RX2, "opinion", "(II)I"⟩
abbrev cX2_form : ByteArray := prog_4_method_4_code
def yX2_form : MethodName := ⟨RX2, "form", "(IIZI)V"⟩
abbrev cX2_renew : ByteArray := prog_4_method_5_code
def yX2_renew : MethodName := ⟨RX2, "renew", "(IIIII)I"⟩
abbrev cX2_isSelf : ByteArray := prog_4_method_6_code
def yX2_isSelf : MethodName := ⟨RX2, "isSelf", "(II)Z"⟩
abbrev cX2_surestOf : ByteArray := prog_4_method_7_code
def yX2_surestOf : MethodName := ⟨RX2, "surestOf", "(II)I"⟩
abbrev cX2_takenBackAt : ByteArray := prog_4_method_8_code
def yX2_takenBackAt : MethodName := ⟨RX2, "takenBackAt", "(II)I"⟩
def RX3 : String := "HandedVoices$Law"
def TX3 : u_T := fun k => match k with
  | 0 => ("HandedVoices$Law", "hands", "LHandedVoices$Hands;", true)
  | 1 => ("HandedVoices$Law", "masks", "[I", true)
  | 2 => ("HandedVoices$Law", "facts", "[I", true)
  | 3 => ("HandedVoices$Law", "ruling", "LHandedVoices$Rules;", false)
  | _ => ("HandedVoices$Law", "halls", "I", false)
def tyX3 : Nat → FieldType := fun k => match k with
  | 0 => .object "HandedVoices$Hands"
  | 1 => .array .int
  | 2 => .array .int
  | 3 => .object "HandedVoices$Rules"
  | _ => .int
theorem nmX3 : ∀ a, a < 5 → ∀ b, b < 5 → a ≠ b → (TX3 a).2.1 ≠ (TX3 b).2.1 := by decide +kernel
theorem tyX3_ok : ∀ k, k < 5 → parseFieldDescriptor (TX3 k).2.2.1 = some (tyX3 k) := by decide +kernel
abbrev cX3_init : ByteArray := prog_5_method_1_code
def yX3_init : MethodName := ⟨RX3, "<init>", "(LHandedVoices$Hands;)V"⟩
abbrev cX3_adopt : ByteArray := prog_5_method_2_code
def yX3_adopt : MethodName := ⟨RX3, "adopt", "(LHandedVoices$Rules;)LHandedVoices$Rules;"⟩
abbrev cX3_learn : ByteArray := prog_5_method_3_code
def yX3_learn : MethodName := ⟨RX3, "learn", "(I)V"⟩
abbrev cX3_bars : ByteArray := prog_5_method_4_code
def yX3_bars : MethodName := ⟨RX3, "bars", "(III)Z"⟩
abbrev cX3_maskOf : ByteArray := prog_5_method_5_code
def yX3_maskOf : MethodName := ⟨RX3, "maskOf", "(II)I"⟩
def RX4 : String := "HandedVoices$Rules"
def TX4 : u_T := fun k => match k with
  | 0 => ("HandedVoices$Rules", "steps", "[I", true)
  | 1 => ("HandedVoices$Rules", "length", "I", false)
  | 2 => ("HandedVoices$Rules", "cap", "I", false)
  | 3 => ("HandedVoices$Rules", "above", "I", false)
  | 4 => ("HandedVoices$Rules", "below", "I", false)
  | _ => ("HandedVoices$Rules", "ringBest", "Z", false)
def tyX4 : Nat → FieldType := fun k => match k with
  | 0 => .array .int
  | 1 => .int
  | 2 => .int
  | 3 => .int
  | 4 => .int
  | _ => .boolean
theorem nmX4 : ∀ a, a < 6 → ∀ b, b < 6 → a ≠ b → (TX4 a).2.1 ≠ (TX4 b).2.1 := by decide +kernel
theorem tyX4_ok : ∀ k, k < 6 → parseFieldDescriptor (TX4 k).2.2.1 = some (tyX4 k) := by decide +kernel
abbrev cX4_init : ByteArray := prog_6_method_1_code
def yX4_init : MethodName := ⟨RX4, "<init>", "()V"⟩
abbrev cX4_clear : ByteArray := prog_6_method_2_code
def yX4_clear : MethodName := ⟨RX4, "clear", "()V"⟩
abbrev cX4_add : ByteArray := prog_6_method_3_code
def yX4_add : MethodName := ⟨RX4, "add", "(I)V"⟩
abbrev cX4_test : ByteArray := prog_6_method_4_code
def yX4_test : MethodName := ⟨RX4, "test", "(III)I"⟩
abbrev cX4_forbid : ByteArray := prog_6_method_5_code
def yX4_forbid : MethodName := ⟨RX4, "forbid", "([I)Z"⟩
abbrev cX4_isTrue : ByteArray := prog_6_method_6_code
def yX4_isTrue : MethodName := ⟨RX4, "isTrue", "(I[I)Z"⟩
def RX5 : String := "HandedVoices$Spread"
def TX5 : u_T := fun k => match k with
  | 0 => ("HandedVoices$Spread", "hands", "LHandedVoices$Hands;", true)
  | 1 => ("HandedVoices$Spread", "law", "LHandedVoices$Law;", true)
  | 2 => ("HandedVoices$Spread", "tenths", "[I", true)
  | 3 => ("HandedVoices$Spread", "onward", "[I", true)
  | 4 => ("HandedVoices$Spread", "speaking", "I", false)
  | 5 => ("HandedVoices$Spread", "orders", "I", false)
  | 6 => ("HandedVoices$Spread", "everyone", "I", false)
  | 7 => ("HandedVoices$Spread", "topic", "I", false)
  | 8 => ("HandedVoices$Spread", "base", "I", false)
  | 9 => ("HandedVoices$Spread", "ways", "I", false)
  | _ => ("HandedVoices$Spread", "bestWay", "I", false)
def tyX5 : Nat → FieldType := fun k => match k with
  | 0 => .object "HandedVoices$Hands"
  | 1 => .object "HandedVoices$Law"
  | 2 => .array .int
  | 3 => .array .int
  | 4 => .int
  | 5 => .int
  | 6 => .int
  | 7 => .int
  | 8 => .int
  | 9 => .int
  | _ => .int
theorem nmX5 : ∀ a, a < 11 → ∀ b, b < 11 → a ≠ b → (TX5 a).2.1 ≠ (TX5 b).2.1 := by decide +kernel
theorem tyX5_ok : ∀ k, k < 11 → parseFieldDescriptor (TX5 k).2.2.1 = some (tyX5 k) := by decide +kernel
abbrev cX5_init : ByteArray := prog_7_method_1_code
def yX5_init : MethodName := ⟨RX5, "<init>", "(LHandedVoices$Hands;LHandedVoices$Law;)V"⟩
abbrev cX5_lay : ByteArray := prog_7_method_2_code
def yX5_lay : MethodName := ⟨RX5, "lay", "(IIIII)V"⟩
abbrev cX5_layFirm : ByteArray := prog_7_method_3_code
def yX5_layFirm : MethodName := ⟨RX5, "layFirm", "(IIIII)V"⟩
abbrev cX5_layHand : ByteArray := prog_7_method_4_code
def yX5_layHand : MethodName := ⟨RX5, "layHand", "(II)V"⟩
abbrev cX5_layOrders : ByteArray := prog_7_method_5_code
def yX5_layOrders : MethodName := ⟨RX5, "layOrders", "()V"⟩
abbrev cX5_nameOf : ByteArray := prog_7_method_6_code
def yX5_nameOf : MethodName := ⟨RX5, "nameOf", "(II)I"⟩
abbrev cX5_send : ByteArray := prog_7_method_7_code
def yX5_send : MethodName := ⟨RX5, "send", "(III)V"⟩
abbrev cX5_stay : ByteArray := prog_7_method_8_code
def yX5_stay : MethodName := ⟨RX5, "stay", "(II)V"⟩
abbrev cX5_reaching : ByteArray := prog_7_method_9_code
def yX5_reaching : MethodName := ⟨RX5, "reaching", "()I"⟩
abbrev cX5_seekWays : ByteArray := prog_7_method_10_code
def yX5_seekWays : MethodName := ⟨RX5, "seekWays", "(Z)V"⟩
abbrev cX5_openNames : ByteArray := prog_7_method_11_code
def yX5_openNames : MethodName := ⟨RX5, "openNames", "([I)I"⟩
abbrev cX5_reachAll : ByteArray := prog_7_method_12_code
def yX5_reachAll : MethodName := ⟨RX5, "reachAll", "(I)Z"⟩
def RX6 : String := "HandedVoices$Tally"
def TX6 : u_T := fun k => match k with
  | 0 => ("HandedVoices$Tally", "hands", "LHandedVoices$Hands;", true)
  | 1 => ("HandedVoices$Tally", "law", "LHandedVoices$Law;", true)
  | 2 => ("HandedVoices$Tally", "spread", "LHandedVoices$Spread;", true)
  | 3 => ("HandedVoices$Tally", "heard", "[I", true)
  | 4 => ("HandedVoices$Tally", "rows", "[[J", true)
  | 5 => ("HandedVoices$Tally", "weights", "[J", true)
  | 6 => ("HandedVoices$Tally", "whole", "J", false)
  | 7 => ("HandedVoices$Tally", "sum", "J", false)
  | 8 => ("HandedVoices$Tally", "odds", "[J", true)
  | _ => ("HandedVoices$Tally", "sums", "[J", true)
def tyX6 : Nat → FieldType := fun k => match k with
  | 0 => .object "HandedVoices$Hands"
  | 1 => .object "HandedVoices$Law"
  | 2 => .object "HandedVoices$Spread"
  | 3 => .array .int
  | 4 => .array (.array .long)
  | 5 => .array .long
  | 6 => .long
  | 7 => .long
  | 8 => .array .long
  | _ => .array .long
theorem nmX6 : ∀ a, a < 10 → ∀ b, b < 10 → a ≠ b → (TX6 a).2.1 ≠ (TX6 b).2.1 := by decide +kernel
theorem tyX6_ok : ∀ k, k < 10 → parseFieldDescriptor (TX6 k).2.2.1 = some (tyX6 k) := by decide +kernel
abbrev cX6_init : ByteArray := prog_8_method_1_code
def yX6_init : MethodName := ⟨RX6, "<init>", "(LHandedVoices$Hands;LHandedVoices$Law;LHandedVoices$Spread;)V"⟩
abbrev cX6_reckonNow : ByteArray := prog_8_method_2_code
def yX6_reckonNow : MethodName := ⟨RX6, "reckonNow", "(I)V"⟩
abbrev cX6_reckon : ByteArray := prog_8_method_3_code
def yX6_reckon : MethodName := ⟨RX6, "reckon", "(IIIII)V"⟩
abbrev cX6_weigh : ByteArray := prog_8_method_4_code
def yX6_weigh : MethodName := ⟨RX6, "weigh", "()V"⟩
abbrev cX6_listHeard : ByteArray := prog_8_method_5_code
def yX6_listHeard : MethodName := ⟨RX6, "listHeard", "(I)I"⟩
abbrev cX6_fillRows : ByteArray := prog_8_method_6_code
def yX6_fillRows : MethodName := ⟨RX6, "fillRows", "(I)V"⟩
abbrev cX6_unroll : ByteArray := prog_8_method_7_code
def yX6_unroll : MethodName := ⟨RX6, "unroll", "(I)J"⟩
abbrev cX6_clear : ByteArray := prog_8_method_8_code
def yX6_clear : MethodName := ⟨RX6, "clear", "([J[JIIJ)V"⟩
abbrev cX6_sumOf : ByteArray := prog_8_method_9_code
def yX6_sumOf : MethodName := ⟨RX6, "sumOf", "(I)J"⟩
abbrev cX6_decides : ByteArray := prog_8_method_10_code
def yX6_decides : MethodName := ⟨RX6, "decides", "(J)Z"⟩
abbrev cX6_withVoices : ByteArray := prog_8_method_11_code
def yX6_withVoices : MethodName := ⟨RX6, "withVoices", "()I"⟩
abbrev cX6_highest : ByteArray := prog_8_method_12_code
def yX6_highest : MethodName := ⟨RX6, "highest", "()J"⟩
abbrev cX6_chanceIf : ByteArray := prog_8_method_13_code
def yX6_chanceIf : MethodName := ⟨RX6, "chanceIf", "(IIII)J"⟩
abbrev cX6_chance : ByteArray := prog_8_method_14_code
def yX6_chance : MethodName := ⟨RX6, "chance", "(I)J"⟩
abbrev cX6_fork : ByteArray := prog_8_method_15_code
def yX6_fork : MethodName := ⟨RX6, "fork", "(IJI)V"⟩
def RX7 : String := "HandedVoices$Tapes"
def TX7 : u_T := fun k => match k with
  | 0 => ("HandedVoices$Tapes", "sorts", "[I", true)
  | 1 => ("HandedVoices$Tapes", "sizes", "[I", true)
  | _ => ("HandedVoices$Tapes", "items", "[J", true)
def tyX7 : Nat → FieldType := fun k => match k with
  | 0 => .array .int
  | 1 => .array .int
  | _ => .array .long
theorem nmX7 : ∀ a, a < 3 → ∀ b, b < 3 → a ≠ b → (TX7 a).2.1 ≠ (TX7 b).2.1 := by decide +kernel
theorem tyX7_ok : ∀ k, k < 3 → parseFieldDescriptor (TX7 k).2.2.1 = some (tyX7 k) := by decide +kernel
abbrev cX7_init : ByteArray := prog_9_method_1_code
def yX7_init : MethodName := ⟨RX7, "<init>", "()V"⟩
abbrev cX7_exists : ByteArray := prog_9_method_2_code
def yX7_exists : MethodName := ⟨RX7, "exists", "(I)Z"⟩
abbrev cX7_reset : ByteArray := prog_9_method_3_code
def yX7_reset : MethodName := ⟨RX7, "reset", "(III)V"⟩
abbrev cX7_get : ByteArray := prog_9_method_4_code
def yX7_get : MethodName := ⟨RX7, "get", "(II)J"⟩
abbrev cX7_put : ByteArray := prog_9_method_5_code
def yX7_put : MethodName := ⟨RX7, "put", "(IIJ)V"⟩
abbrev cX7_narrow : ByteArray := prog_9_method_6_code
def yX7_narrow : MethodName := ⟨RX7, "narrow", "(IJ)J"⟩
abbrev cX7_holds : ByteArray := prog_9_method_7_code
def yX7_holds : MethodName := ⟨RX7, "holds", "(III)Z"⟩
abbrev cX7_copy : ByteArray := prog_9_method_8_code
def yX7_copy : MethodName := ⟨RX7, "copy", "(IIIII)V"⟩
def RX8 : String := "HandedVoices$Wishes"
def TX8 : u_T := fun k => match k with
  | 0 => ("HandedVoices$Wishes", "hands", "LHandedVoices$Hands;", true)
  | 1 => ("HandedVoices$Wishes", "law", "LHandedVoices$Law;", true)
  | 2 => ("HandedVoices$Wishes", "spread", "LHandedVoices$Spread;", true)
  | 3 => ("HandedVoices$Wishes", "tally", "LHandedVoices$Tally;", true)
  | _ => ("HandedVoices$Wishes", "weightsNow", "[J", true)
def tyX8 : Nat → FieldType := fun k => match k with
  | 0 => .object "HandedVoices$Hands"
  | 1 => .object "HandedVoices$Law"
  | 2 => .object "HandedVoices$Spread"
  | 3 => .object "HandedVoices$Tally"
  | _ => .array .long
theorem nmX8 : ∀ a, a < 5 → ∀ b, b < 5 → a ≠ b → (TX8 a).2.1 ≠ (TX8 b).2.1 := by decide +kernel
theorem tyX8_ok : ∀ k, k < 5 → parseFieldDescriptor (TX8 k).2.2.1 = some (tyX8 k) := by decide +kernel
abbrev cX8_init : ByteArray := prog_10_method_1_code
def yX8_init : MethodName := ⟨RX8, "<init>", "(LHandedVoices$Hands;LHandedVoices$Law;LHandedVoices$Spread;LHandedVoices$Tally;)V"⟩
abbrev cX8_firstBreach : ByteArray := prog_10_method_2_code
def yX8_firstBreach : MethodName := ⟨RX8, "firstBreach", "(I)I"⟩
abbrev cX8_firstWish : ByteArray := prog_10_method_3_code
def yX8_firstWish : MethodName := ⟨RX8, "firstWish", "(I)I"⟩
abbrev cX8_bestMending : ByteArray := prog_10_method_4_code
def yX8_bestMending : MethodName := ⟨RX8, "bestMending", "(III)I"⟩
abbrev cX8_movers : ByteArray := prog_10_method_5_code
def yX8_movers : MethodName := ⟨RX8, "movers", "(I)I"⟩
abbrev cX8_lastOtherwise : ByteArray := prog_10_method_6_code
def yX8_lastOtherwise : MethodName := ⟨RX8, "lastOtherwise", "(I)I"⟩
abbrev cX8_decidedAt : ByteArray := prog_10_method_7_code
def yX8_decidedAt : MethodName := ⟨RX8, "decidedAt", "(II)Z"⟩
abbrev cX8_fewestToWin : ByteArray := prog_10_method_8_code
def yX8_fewestToWin : MethodName := ⟨RX8, "fewestToWin", "(I)I"⟩
def RX9 : String := "HandedVoices"
def TX9 : u_T := fun k => match k with
  | 0 => ("HandedVoices", "hands", "LHandedVoices$Hands;", true)
  | 1 => ("HandedVoices", "text", "LHandedVoices$HallText;", true)
  | 2 => ("HandedVoices", "law", "LHandedVoices$Law;", true)
  | 3 => ("HandedVoices", "spread", "LHandedVoices$Spread;", true)
  | 4 => ("HandedVoices", "tally", "LHandedVoices$Tally;", true)
  | 5 => ("HandedVoices", "wishes", "LHandedVoices$Wishes;", true)
  | 6 => ("HandedVoices", "acts", "LHandedVoices$Acts;", true)
  | _ => ("HandedVoices", "tapes", "LHandedVoices$Tapes;", true)
def tyX9 : Nat → FieldType := fun k => match k with
  | 0 => .object "HandedVoices$Hands"
  | 1 => .object "HandedVoices$HallText"
  | 2 => .object "HandedVoices$Law"
  | 3 => .object "HandedVoices$Spread"
  | 4 => .object "HandedVoices$Tally"
  | 5 => .object "HandedVoices$Wishes"
  | 6 => .object "HandedVoices$Acts"
  | _ => .object "HandedVoices$Tapes"
theorem nmX9 : ∀ a, a < 8 → ∀ b, b < 8 → a ≠ b → (TX9 a).2.1 ≠ (TX9 b).2.1 := by decide +kernel
theorem tyX9_ok : ∀ k, k < 8 → parseFieldDescriptor (TX9 k).2.2.1 = some (tyX9 k) := by decide +kernel
abbrev cX9_init : ByteArray := prog_1_method_1_code
def yX9_init : MethodName := ⟨RX9, "<init>", "()V"⟩
abbrev cX9_member : ByteArray := prog_1_method_2_code
def yX9_member : MethodName := ⟨RX9, "member", "()I"⟩
abbrev cX9_think : ByteArray := prog_1_method_3_code
def yX9_think : MethodName := ⟨RX9, "think", "(IIZI)I"⟩
abbrev cX9_hand : ByteArray := prog_1_method_4_code
def yX9_hand : MethodName := ⟨RX9, "hand", "(III)I"⟩
abbrev cX9_give : ByteArray := prog_1_method_5_code
def yX9_give : MethodName := ⟨RX9, "give", "(III)I"⟩
abbrev cX9_names : ByteArray := prog_1_method_6_code
def yX9_names : MethodName := ⟨RX9, "names", "(IIIII)I"⟩
abbrev cX9_back : ByteArray := prog_1_method_7_code
def yX9_back : MethodName := ⟨RX9, "back", "(III)I"⟩
abbrev cX9_pass : ByteArray := prog_1_method_8_code
def yX9_pass : MethodName := ⟨RX9, "pass", "(I)I"⟩
abbrev cX9_of : ByteArray := prog_1_method_9_code
def yX9_of : MethodName := ⟨RX9, "of", "(III)I"⟩
abbrev cX9_feed : ByteArray := prog_1_method_10_code
def yX9_feed : MethodName := ⟨RX9, "feed", "(II)I"⟩
abbrev cX9_hall : ByteArray := prog_1_method_11_code
def yX9_hall : MethodName := ⟨RX9, "hall", "()I"⟩
abbrev cX9_barred : ByteArray := prog_1_method_12_code
def yX9_barred : MethodName := ⟨RX9, "barred", "(III)I"⟩
abbrev cX9_share : ByteArray := prog_1_method_13_code
def yX9_share : MethodName := ⟨RX9, "share", "(III)I"⟩
abbrev cX9_voices : ByteArray := prog_1_method_14_code
def yX9_voices : MethodName := ⟨RX9, "voices", "(III)J"⟩
abbrev cX9_lost : ByteArray := prog_1_method_15_code
def yX9_lost : MethodName := ⟨RX9, "lost", "(I)I"⟩
abbrev cX9_decided : ByteArray := prog_1_method_16_code
def yX9_decided : MethodName := ⟨RX9, "decided", "(I)I"⟩
abbrev cX9_turning : ByteArray := prog_1_method_17_code
def yX9_turning : MethodName := ⟨RX9, "turning", "(I)I"⟩
abbrev cX9_power : ByteArray := prog_1_method_18_code
def yX9_power : MethodName := ⟨RX9, "power", "(II)I"⟩
abbrev cX9_few : ByteArray := prog_1_method_19_code
def yX9_few : MethodName := ⟨RX9, "few", "(I)I"⟩
abbrev cX9_best : ByteArray := prog_1_method_20_code
def yX9_best : MethodName := ⟨RX9, "best", "(II)I"⟩
abbrev cX9_right : ByteArray := prog_1_method_21_code
def yX9_right : MethodName := ⟨RX9, "right", "(III)J"⟩
abbrev cX9_surest : ByteArray := prog_1_method_22_code
def yX9_surest : MethodName := ⟨RX9, "surest", "(I)I"⟩
abbrev cX9_breach : ByteArray := prog_1_method_23_code
def yX9_breach : MethodName := ⟨RX9, "breach", "(I)I"⟩
abbrev cX9_rather : ByteArray := prog_1_method_24_code
def yX9_rather : MethodName := ⟨RX9, "rather", "(I)I"⟩
abbrev cX9_settle : ByteArray := prog_1_method_25_code
def yX9_settle : MethodName := ⟨RX9, "settle", "(I)I"⟩
abbrev cX9_heap : ByteArray := prog_1_method_26_code
def yX9_heap : MethodName := ⟨RX9, "heap", "(II)J"⟩
abbrev cX9_mend : ByteArray := prog_1_method_27_code
def yX9_mend : MethodName := ⟨RX9, "mend", "(III)I"⟩
abbrev cX9_late : ByteArray := prog_1_method_28_code
def yX9_late : MethodName := ⟨RX9, "late", "(I)I"⟩
abbrev cX9_fewest : ByteArray := prog_1_method_29_code
def yX9_fewest : MethodName := ⟨RX9, "fewest", "(I)I"⟩
abbrev cX9_table : ByteArray := prog_1_method_30_code
def yX9_table : MethodName := ⟨RX9, "table", "(III)I"⟩
abbrev cX9_act : ByteArray := prog_1_method_31_code
def yX9_act : MethodName := ⟨RX9, "act", "(IIII)I"⟩
abbrev cX9_trace : ByteArray := prog_1_method_32_code
def yX9_trace : MethodName := ⟨RX9, "trace", "(I)I"⟩
abbrev cX9_taken : ByteArray := prog_1_method_33_code
def yX9_taken : MethodName := ⟨RX9, "taken", "(III)I"⟩
abbrev cX9_count : ByteArray := prog_1_method_34_code
def yX9_count : MethodName := ⟨RX9, "count", "(I)I"⟩
abbrev cX9_tape : ByteArray := prog_1_method_35_code
def yX9_tape : MethodName := ⟨RX9, "tape", "(III)I"⟩
abbrev cX9_item : ByteArray := prog_1_method_36_code
def yX9_item : MethodName := ⟨RX9, "item", "(IIJ)I"⟩
abbrev cX9_read : ByteArray := prog_1_method_37_code
def yX9_read : MethodName := ⟨RX9, "read", "(II)J"⟩
abbrev cX9_shift : ByteArray := prog_1_method_38_code
def yX9_shift : MethodName := ⟨RX9, "shift", "(IIIII)I"⟩
abbrev cX9_isMatter : ByteArray := prog_1_method_39_code
def yX9_isMatter : MethodName := ⟨RX9, "isMatter", "(I)Z"⟩
abbrev cX9_isPart : ByteArray := prog_1_method_40_code
def yX9_isPart : MethodName := ⟨RX9, "isPart", "(I)Z"⟩
abbrev cX9_cell : ByteArray := prog_1_method_41_code
def yX9_cell : MethodName := ⟨RX9, "cell", "(II)I"⟩
abbrev cX9_lowest : ByteArray := prog_1_method_42_code
def yX9_lowest : MethodName := ⟨RX9, "lowest", "(JJI)J"⟩
abbrev cX9_commonDivisor : ByteArray := prog_1_method_43_code
def yX9_commonDivisor : MethodName := ⟨RX9, "commonDivisor", "(JJ)J"⟩
def RX10 : String := "HandedVoicesModel"
def TX10 : u_T := fun k => match k with
  | 0 => ("HandedVoicesModel", "members", "I", false)
  | 1 => ("HandedVoicesModel", "now", "I", false)
  | 2 => ("HandedVoicesModel", "kind", "[I", true)
  | 3 => ("HandedVoicesModel", "taken", "[I", true)
  | 4 => ("HandedVoicesModel", "first", "[I", true)
  | 5 => ("HandedVoicesModel", "second", "[I", true)
  | 6 => ("HandedVoicesModel", "tenths", "[I", true)
  | 7 => ("HandedVoicesModel", "sure", "[I", true)
  | 8 => ("HandedVoicesModel", "yes", "[Z", true)
  | 9 => ("HandedVoicesModel", "halls", "I", false)
  | 10 => ("HandedVoicesModel", "fed", "I", false)
  | 11 => ("HandedVoicesModel", "text", "[I", true)
  | 12 => ("HandedVoicesModel", "size", "[I", true)
  | 13 => ("HandedVoicesModel", "facts", "[I", true)
  | 14 => ("HandedVoicesModel", "base", "I", false)
  | 15 => ("HandedVoicesModel", "many", "I", false)
  | 16 => ("HandedVoicesModel", "at", "I", false)
  | 17 => ("HandedVoicesModel", "digits", "I", false)
  | 18 => ("HandedVoicesModel", "bars", "Z", false)
  | 19 => ("HandedVoicesModel", "cap", "I", false)
  | 20 => ("HandedVoicesModel", "needN", "I", false)
  | 21 => ("HandedVoicesModel", "needD", "I", false)
  | 22 => ("HandedVoicesModel", "ring", "I", false)
  | 23 => ("HandedVoicesModel", "isBarred", "[Z", true)
  | 24 => ("HandedVoicesModel", "isBarKnown", "Z", false)
  | 25 => ("HandedVoicesModel", "waits", "[I", true)
  | 26 => ("HandedVoicesModel", "pile", "[Z", true)
  | 27 => ("HandedVoicesModel", "waiting", "I", false)
  | 28 => ("HandedVoicesModel", "piled", "I", false)
  | 29 => ("HandedVoicesModel", "open", "I", false)
  | 30 => ("HandedVoicesModel", "capTold", "I", false)
  | 31 => ("HandedVoicesModel", "needNTold", "I", false)
  | 32 => ("HandedVoicesModel", "needDTold", "I", false)
  | 33 => ("HandedVoicesModel", "ringTold", "I", false)
  | 34 => ("HandedVoicesModel", "goesTo", "[I", true)
  | 35 => ("HandedVoicesModel", "minute", "I", false)
  | 36 => ("HandedVoicesModel", "bestWay", "I", false)
  | 37 => ("HandedVoicesModel", "wayMany", "I", false)
  | 38 => ("HandedVoicesModel", "voice", "[J", true)
  | 39 => ("HandedVoicesModel", "row", "[J", true)
  | 40 => ("HandedVoicesModel", "line", "J", false)
  | 41 => ("HandedVoicesModel", "lost", "I", false)
  | 42 => ("HandedVoicesModel", "likely", "J", false)
  | 43 => ("HandedVoicesModel", "tens", "J", false)
  | 44 => ("HandedVoicesModel", "kept", "[I", true)
  | 45 => ("HandedVoicesModel", "takenWas", "[I", true)
  | 46 => ("HandedVoicesModel", "ran", "I", false)
  | 47 => ("HandedVoicesModel", "bodies", "[I", true)
  | 48 => ("HandedVoicesModel", "sort", "[I", true)
  | 49 => ("HandedVoicesModel", "length", "[I", true)
  | 50 => ("HandedVoicesModel", "item", "[J", true)
  | _ => ("HandedVoicesModel", "aside", "[J", true)
def tyX10 : Nat → FieldType := fun k => match k with
  | 0 => .int
  | 1 => .int
  | 2 => .array .int
  | 3 => .array .int
  | 4 => .array .int
  | 5 => .array .int
  | 6 => .array .int
  | 7 => .array .int
  | 8 => .array .boolean
  | 9 => .int
  | 10 => .int
  | 11 => .array .int
  | 12 => .array .int
  | 13 => .array .int
  | 14 => .int
  | 15 => .int
  | 16 => .int
  | 17 => .int
  | 18 => .boolean
  | 19 => .int
  | 20 => .int
  | 21 => .int
  | 22 => .int
  | 23 => .array .boolean
  | 24 => .boolean
  | 25 => .array .int
  | 26 => .array .boolean
  | 27 => .int
  | 28 => .int
  | 29 => .int
  | 30 => .int
  | 31 => .int
  | 32 => .int
  | 33 => .int
  | 34 => .array .int
  | 35 => .int
  | 36 => .int
  | 37 => .int
  | 38 => .array .long
  | 39 => .array .long
  | 40 => .long
  | 41 => .int
  | 42 => .long
  | 43 => .long
  | 44 => .array .int
  | 45 => .array .int
  | 46 => .int
  | 47 => .array .int
  | 48 => .array .int
  | 49 => .array .int
  | 50 => .array .long
  | _ => .array .long
theorem nmX10 : ∀ a, a < 52 → ∀ b, b < 52 → a ≠ b → (TX10 a).2.1 ≠ (TX10 b).2.1 := by decide +kernel
theorem tyX10_ok : ∀ k, k < 52 → parseFieldDescriptor (TX10 k).2.2.1 = some (tyX10 k) := by decide +kernel
abbrev cX10_init : ByteArray := prog_12_method_1_code
def yX10_init : MethodName := ⟨RX10, "<init>", "()V"⟩
abbrev cX10_in : ByteArray := prog_12_method_2_code
def yX10_in : MethodName := ⟨RX10, "in", "(III)Z"⟩
abbrev cX10_ones : ByteArray := prog_12_method_3_code
def yX10_ones : MethodName := ⟨RX10, "ones", "(I)I"⟩
abbrev cX10_has : ByteArray := prog_12_method_4_code
def yX10_has : MethodName := ⟨RX10, "has", "(II)Z"⟩
abbrev cX10_isMember : ByteArray := prog_12_method_5_code
def yX10_isMember : MethodName := ⟨RX10, "isMember", "(I)Z"⟩
abbrev cX10_isMatter : ByteArray := prog_12_method_6_code
def yX10_isMatter : MethodName := ⟨RX10, "isMatter", "(I)Z"⟩
abbrev cX10_member : ByteArray := prog_12_method_7_code
def yX10_member : MethodName := ⟨RX10, "member", "()I"⟩
abbrev cX10_put : ByteArray := prog_12_method_8_code
def yX10_put : MethodName := ⟨RX10, "put", "(IIIII)V"⟩
abbrev cX10_think : ByteArray := prog_12_method_9_code
def yX10_think : MethodName := ⟨RX10, "think", "(IIZI)I"⟩
abbrev cX10_hand : ByteArray := prog_12_method_10_code
def yX10_hand : MethodName := ⟨RX10, "hand", "(III)I"⟩
abbrev cX10_give : ByteArray := prog_12_method_11_code
def yX10_give : MethodName := ⟨RX10, "give", "(III)I"⟩
abbrev cX10_names : ByteArray := prog_12_method_12_code
def yX10_names : MethodName := ⟨RX10, "names", "(IIIII)I"⟩
abbrev cX10_back : ByteArray := prog_12_method_13_code
def yX10_back : MethodName := ⟨RX10, "back", "(III)I"⟩
abbrev cX10_pass : ByteArray := prog_12_method_14_code
def yX10_pass : MethodName := ⟨RX10, "pass", "(I)I"⟩
abbrev cX10_of : ByteArray := prog_12_method_15_code
def yX10_of : MethodName := ⟨RX10, "of", "(III)I"⟩
abbrev cX10_feed : ByteArray := prog_12_method_16_code
def yX10_feed : MethodName := ⟨RX10, "feed", "(II)I"⟩
abbrev cX10_next : ByteArray := prog_12_method_17_code
def yX10_next : MethodName := ⟨RX10, "next", "()I"⟩
abbrev cX10_isDigit : ByteArray := prog_12_method_18_code
def yX10_isDigit : MethodName := ⟨RX10, "isDigit", "()Z"⟩
abbrev cX10_takes : ByteArray := prog_12_method_19_code
def yX10_takes : MethodName := ⟨RX10, "takes", "(I)Z"⟩
abbrev cX10_takesWord : ByteArray := prog_12_method_20_code
def yX10_takesWord : MethodName := ⟨RX10, "takesWord", "(II)Z"⟩
abbrev cX10_takesNumber : ByteArray := prog_12_method_21_code
def yX10_takesNumber : MethodName := ⟨RX10, "takesNumber", "(Z)Z"⟩
abbrev cX10_push : ByteArray := prog_12_method_22_code
def yX10_push : MethodName := ⟨RX10, "push", "(Z)V"⟩
abbrev cX10_settleSigns : ByteArray := prog_12_method_23_code
def yX10_settleSigns : MethodName := ⟨RX10, "settleSigns", "(I)V"⟩
abbrev cX10_takesTest : ByteArray := prog_12_method_24_code
def yX10_takesTest : MethodName := ⟨RX10, "takesTest", "()Z"⟩
abbrev cX10_takesE : ByteArray := prog_12_method_25_code
def yX10_takesE : MethodName := ⟨RX10, "takesE", "()Z"⟩
abbrev cX10_takesNeed : ByteArray := prog_12_method_26_code
def yX10_takesNeed : MethodName := ⟨RX10, "takesNeed", "()Z"⟩
abbrev cX10_takesClause : ByteArray := prog_12_method_27_code
def yX10_takesClause : MethodName := ⟨RX10, "takesClause", "()Z"⟩
abbrev cX10_goes : ByteArray := prog_12_method_28_code
def yX10_goes : MethodName := ⟨RX10, "goes", "(I)Z"⟩
abbrev cX10_hall : ByteArray := prog_12_method_29_code
def yX10_hall : MethodName := ⟨RX10, "hall", "()I"⟩
abbrev cX10_isBar : ByteArray := prog_12_method_30_code
def yX10_isBar : MethodName := ⟨RX10, "isBar", "(III)Z"⟩
abbrev cX10_barred : ByteArray := prog_12_method_31_code
def yX10_barred : MethodName := ⟨RX10, "barred", "(III)I"⟩
abbrev cX10_isOrder : ByteArray := prog_12_method_32_code
def yX10_isOrder : MethodName := ⟨RX10, "isOrder", "(II)Z"⟩
abbrev cX10_surestOf : ByteArray := prog_12_method_33_code
def yX10_surestOf : MethodName := ⟨RX10, "surestOf", "(II)I"⟩
abbrev cX10_hands : ByteArray := prog_12_method_34_code
def yX10_hands : MethodName := ⟨RX10, "hands", "(IIII)V"⟩
abbrev cX10_findHand : ByteArray := prog_12_method_35_code
def yX10_findHand : MethodName := ⟨RX10, "findHand", "(II)V"⟩
abbrev cX10_lostNow : ByteArray := prog_12_method_36_code
def yX10_lostNow : MethodName := ⟨RX10, "lostNow", "()I"⟩
abbrev cX10_putOrders : ByteArray := prog_12_method_37_code
def yX10_putOrders : MethodName := ⟨RX10, "putOrders", "(II)Z"⟩
abbrev cX10_findBest : ByteArray := prog_12_method_38_code
def yX10_findBest : MethodName := ⟨RX10, "findBest", "(I)V"⟩
abbrev cX10_findHands : ByteArray := prog_12_method_39_code
def yX10_findHands : MethodName := ⟨RX10, "findHands", "(II)V"⟩
abbrev cX10_findAll : ByteArray := prog_12_method_40_code
def yX10_findAll : MethodName := ⟨RX10, "findAll", "(II)V"⟩
abbrev cX10_share : ByteArray := prog_12_method_41_code
def yX10_share : MethodName := ⟨RX10, "share", "(III)I"⟩
abbrev cX10_unroll : ByteArray := prog_12_method_42_code
def yX10_unroll : MethodName := ⟨RX10, "unroll", "()V"⟩
abbrev cX10_findVoices : ByteArray := prog_12_method_43_code
def yX10_findVoices : MethodName := ⟨RX10, "findVoices", "(II)V"⟩
abbrev cX10_divisor : ByteArray := prog_12_method_44_code
def yX10_divisor : MethodName := ⟨RX10, "divisor", "(JJ)J"⟩
abbrev cX10_part : ByteArray := prog_12_method_45_code
def yX10_part : MethodName := ⟨RX10, "part", "(JJI)J"⟩
abbrev cX10_voices : ByteArray := prog_12_method_46_code
def yX10_voices : MethodName := ⟨RX10, "voices", "(III)J"⟩
abbrev cX10_lost : ByteArray := prog_12_method_47_code
def yX10_lost : MethodName := ⟨RX10, "lost", "(I)I"⟩
abbrev cX10_thinks : ByteArray := prog_12_method_48_code
def yX10_thinks : MethodName := ⟨RX10, "thinks", "(I)I"⟩
abbrev cX10_decides : ByteArray := prog_12_method_49_code
def yX10_decides : MethodName := ⟨RX10, "decides", "(I)Z"⟩
abbrev cX10_decided : ByteArray := prog_12_method_50_code
def yX10_decided : MethodName := ⟨RX10, "decided", "(I)I"⟩
abbrev cX10_turning : ByteArray := prog_12_method_51_code
def yX10_turning : MethodName := ⟨RX10, "turning", "(I)I"⟩
abbrev cX10_speaking : ByteArray := prog_12_method_52_code
def yX10_speaking : MethodName := ⟨RX10, "speaking", "()I"⟩
abbrev cX10_power : ByteArray := prog_12_method_53_code
def yX10_power : MethodName := ⟨RX10, "power", "(II)I"⟩
abbrev cX10_few : ByteArray := prog_12_method_54_code
def yX10_few : MethodName := ⟨RX10, "few", "(I)I"⟩
abbrev cX10_best : ByteArray := prog_12_method_55_code
def yX10_best : MethodName := ⟨RX10, "best", "(II)I"⟩
abbrev cX10_findRight : ByteArray := prog_12_method_56_code
def yX10_findRight : MethodName := ⟨RX10, "findRight", "(I)V"⟩
abbrev cX10_findAlone : ByteArray := prog_12_method_57_code
def yX10_findAlone : MethodName := ⟨RX10, "findAlone", "()V"⟩
abbrev cX10_right : ByteArray := prog_12_method_58_code
def yX10_right : MethodName := ⟨RX10, "right", "(III)J"⟩
abbrev cX10_surest : ByteArray := prog_12_method_59_code
def yX10_surest : MethodName := ⟨RX10, "surest", "(I)I"⟩
abbrev cX10_keep : ByteArray := prog_12_method_60_code
def yX10_keep : MethodName := ⟨RX10, "keep", "(II)V"⟩
abbrev cX10_putBack : ByteArray := prog_12_method_61_code
def yX10_putBack : MethodName := ⟨RX10, "putBack", "(II)V"⟩
abbrev cX10_breach : ByteArray := prog_12_method_62_code
def yX10_breach : MethodName := ⟨RX10, "breach", "(I)I"⟩
abbrev cX10_isLess : ByteArray := prog_12_method_63_code
def yX10_isLess : MethodName := ⟨RX10, "isLess", "(JJJJ)Z"⟩
abbrev cX10_ratherOf : ByteArray := prog_12_method_64_code
def yX10_ratherOf : MethodName := ⟨RX10, "ratherOf", "(I)I"⟩
abbrev cX10_rather : ByteArray := prog_12_method_65_code
def yX10_rather : MethodName := ⟨RX10, "rather", "(I)I"⟩
abbrev cX10_settle : ByteArray := prog_12_method_66_code
def yX10_settle : MethodName := ⟨RX10, "settle", "(I)I"⟩
abbrev cX10_heapOf : ByteArray := prog_12_method_67_code
def yX10_heapOf : MethodName := ⟨RX10, "heapOf", "()J"⟩
abbrev cX10_heap : ByteArray := prog_12_method_68_code
def yX10_heap : MethodName := ⟨RX10, "heap", "(II)J"⟩
abbrev cX10_asSelf : ByteArray := prog_12_method_69_code
def yX10_asSelf : MethodName := ⟨RX10, "asSelf", "(II)V"⟩
abbrev cX10_asBefore : ByteArray := prog_12_method_70_code
def yX10_asBefore : MethodName := ⟨RX10, "asBefore", "(I)V"⟩
abbrev cX10_mend : ByteArray := prog_12_method_71_code
def yX10_mend : MethodName := ⟨RX10, "mend", "(III)I"⟩
abbrev cX10_late : ByteArray := prog_12_method_72_code
def yX10_late : MethodName := ⟨RX10, "late", "(I)I"⟩
abbrev cX10_fewest : ByteArray := prog_12_method_73_code
def yX10_fewest : MethodName := ⟨RX10, "fewest", "(I)I"⟩
abbrev cX10_table : ByteArray := prog_12_method_74_code
def yX10_table : MethodName := ⟨RX10, "table", "(III)I"⟩
abbrev cX10_body : ByteArray := prog_12_method_75_code
def yX10_body : MethodName := ⟨RX10, "body", "(I)V"⟩
abbrev cX10_plainGives : ByteArray := prog_12_method_76_code
def yX10_plainGives : MethodName := ⟨RX10, "plainGives", "(II)I"⟩
abbrev cX10_giveGives : ByteArray := prog_12_method_77_code
def yX10_giveGives : MethodName := ⟨RX10, "giveGives", "(II)I"⟩
abbrev cX10_gives : ByteArray := prog_12_method_78_code
def yX10_gives : MethodName := ⟨RX10, "gives", "(III)I"⟩
abbrev cX10_plainHolds : ByteArray := prog_12_method_79_code
def yX10_plainHolds : MethodName := ⟨RX10, "plainHolds", "(III)I"⟩
abbrev cX10_giveHolds : ByteArray := prog_12_method_80_code
def yX10_giveHolds : MethodName := ⟨RX10, "giveHolds", "(III)I"⟩
abbrev cX10_holds : ByteArray := prog_12_method_81_code
def yX10_holds : MethodName := ⟨RX10, "holds", "(III)I"⟩
abbrev cX10_plainTells : ByteArray := prog_12_method_82_code
def yX10_plainTells : MethodName := ⟨RX10, "plainTells", "(III)I"⟩
abbrev cX10_tells : ByteArray := prog_12_method_83_code
def yX10_tells : MethodName := ⟨RX10, "tells", "(III)I"⟩
abbrev cX10_act : ByteArray := prog_12_method_84_code
def yX10_act : MethodName := ⟨RX10, "act", "(IIII)I"⟩
abbrev cX10_trace : ByteArray := prog_12_method_85_code
def yX10_trace : MethodName := ⟨RX10, "trace", "(I)I"⟩
abbrev cX10_taken : ByteArray := prog_12_method_86_code
def yX10_taken : MethodName := ⟨RX10, "taken", "(III)I"⟩
abbrev cX10_count : ByteArray := prog_12_method_87_code
def yX10_count : MethodName := ⟨RX10, "count", "(I)I"⟩
abbrev cX10_isTape : ByteArray := prog_12_method_88_code
def yX10_isTape : MethodName := ⟨RX10, "isTape", "(I)Z"⟩
abbrev cX10_tape : ByteArray := prog_12_method_89_code
def yX10_tape : MethodName := ⟨RX10, "tape", "(III)I"⟩
abbrev cX10_narrow : ByteArray := prog_12_method_90_code
def yX10_narrow : MethodName := ⟨RX10, "narrow", "(IJ)J"⟩
abbrev cX10_item : ByteArray := prog_12_method_91_code
def yX10_item : MethodName := ⟨RX10, "item", "(IIJ)I"⟩
abbrev cX10_read : ByteArray := prog_12_method_92_code
def yX10_read : MethodName := ⟨RX10, "read", "(II)J"⟩
abbrev cX10_shift : ByteArray := prog_12_method_93_code
def yX10_shift : MethodName := ⟨RX10, "shift", "(IIIII)I"⟩
def RJx145de : String := "java/io/Serializable"
def TJx145de : u_T := fun k => match k with
  | _ => ("", "", "", false)
def tyJx145de : Nat → FieldType := fun k => match k with
  | _ => .int
theorem nmJx145de : ∀ a, a < 0 → ∀ b, b < 0 → a ≠ b → (TJx145de a).2.1 ≠ (TJx145de b).2.1 := by decide +kernel
theorem tyJx145de_ok : ∀ k, k < 0 → parseFieldDescriptor (TJx145de k).2.2.1 = some (tyJx145de k) := by decide +kernel
def RJx9f9b0 : String := "java/lang/CharSequence"
def TJx9f9b0 : u_T := fun k => match k with
  | _ => ("", "", "", false)
def tyJx9f9b0 : Nat → FieldType := fun k => match k with
  | _ => .int
theorem nmJx9f9b0 : ∀ a, a < 0 → ∀ b, b < 0 → a ≠ b → (TJx9f9b0 a).2.1 ≠ (TJx9f9b0 b).2.1 := by decide +kernel
theorem tyJx9f9b0_ok : ∀ k, k < 0 → parseFieldDescriptor (TJx9f9b0 k).2.2.1 = some (tyJx9f9b0 k) := by decide +kernel
def RJxb160c : String := "java/lang/Comparable"
def TJxb160c : u_T := fun k => match k with
  | _ => ("", "", "", false)
def tyJxb160c : Nat → FieldType := fun k => match k with
  | _ => .int
theorem nmJxb160c : ∀ a, a < 0 → ∀ b, b < 0 → a ≠ b → (TJxb160c a).2.1 ≠ (TJxb160c b).2.1 := by decide +kernel
theorem tyJxb160c_ok : ∀ k, k < 0 → parseFieldDescriptor (TJxb160c k).2.2.1 = some (tyJxb160c k) := by decide +kernel
def RJ6 : String := "java/lang/Integer"
def TJ6 : u_T := fun k => match k with
  | _ => ("", "", "", false)
def tyJ6 : Nat → FieldType := fun k => match k with
  | _ => .int
theorem nmJ6 : ∀ a, a < 0 → ∀ b, b < 0 → a ≠ b → (TJ6 a).2.1 ≠ (TJ6 b).2.1 := by decide +kernel
theorem tyJ6_ok : ∀ k, k < 0 → parseFieldDescriptor (TJ6 k).2.2.1 = some (tyJ6 k) := by decide +kernel
abbrev cJ6_bitCount_0f7a4 : ByteArray := prog_13_method_49_code
def yJ6_bitCount_0f7a4 : MethodName := ⟨RJ6, "bitCount", "(I)I"⟩
def RJ9 : String := "java/lang/Math"
def TJ9 : u_T := fun k => match k with
  | _ => ("", "", "", false)
def tyJ9 : Nat → FieldType := fun k => match k with
  | _ => .int
theorem nmJ9 : ∀ a, a < 0 → ∀ b, b < 0 → a ≠ b → (TJ9 a).2.1 ≠ (TJ9 b).2.1 := by decide +kernel
theorem tyJ9_ok : ∀ k, k < 0 → parseFieldDescriptor (TJ9 k).2.2.1 = some (tyJ9 k) := by decide +kernel
abbrev cJ9_max_f86c9 : ByteArray := prog_14_method_66_code
def yJ9_max_f86c9 : MethodName := ⟨RJ9, "max", "(JJ)J"⟩
abbrev cJ9_min_7cf53 : ByteArray := prog_14_method_69_code
def yJ9_min_7cf53 : MethodName := ⟨RJ9, "min", "(II)I"⟩
abbrev cJ9_min_f86c9 : ByteArray := prog_14_method_70_code
def yJ9_min_f86c9 : MethodName := ⟨RJ9, "min", "(JJ)J"⟩
def RJ0 : String := "java/lang/String"
def TJ0 : u_T := fun k => match k with
  | _ => ("", "", "", false)
def tyJ0 : Nat → FieldType := fun k => match k with
  | _ => .int
theorem nmJ0 : ∀ a, a < 0 → ∀ b, b < 0 → a ≠ b → (TJ0 a).2.1 ≠ (TJ0 b).2.1 := by decide +kernel
theorem tyJ0_ok : ∀ k, k < 0 → parseFieldDescriptor (TJ0 k).2.2.1 = some (tyJ0 k) := by decide +kernel
abbrev cJ0_length_8abf5 : ByteArray := prog_15_method_54_code
def yJ0_length_8abf5 : MethodName := ⟨RJ0, "length", "()I"⟩
abbrev cJ0_charAt_5068e : ByteArray := prog_15_method_56_code
def yJ0_charAt_5068e : MethodName := ⟨RJ0, "charAt", "(I)C"⟩
abbrev cJ0_coder_7d493 : ByteArray := prog_15_method_152_code
def yJ0_coder_7d493 : MethodName := ⟨RJ0, "coder", "()B"⟩
abbrev cJ0_isLatin1_aae02 : ByteArray := prog_15_method_154_code
def yJ0_isLatin1_aae02 : MethodName := ⟨RJ0, "isLatin1", "()Z"⟩
abbrev cJ0_checkIndex_df160 : ByteArray := prog_15_method_155_code
def yJ0_checkIndex_df160 : MethodName := ⟨RJ0, "checkIndex", "(II)V"⟩
def RJ1 : String := "java/lang/StringLatin1"
def TJ1 : u_T := fun k => match k with
  | _ => ("", "", "", false)
def tyJ1 : Nat → FieldType := fun k => match k with
  | _ => .int
theorem nmJ1 : ∀ a, a < 0 → ∀ b, b < 0 → a ≠ b → (TJ1 a).2.1 ≠ (TJ1 b).2.1 := by decide +kernel
theorem tyJ1_ok : ∀ k, k < 0 → parseFieldDescriptor (TJ1 k).2.2.1 = some (tyJ1 k) := by decide +kernel
abbrev cJ1_charAt_3b067 : ByteArray := prog_16_method_2_code
def yJ1_charAt_3b067 : MethodName := ⟨RJ1, "charAt", "([BI)C"⟩
def RJ2 : String := "java/lang/StringUTF16"
def TJ2 : u_T := fun k => match k with
  | _ => ("", "", "", false)
def tyJ2 : Nat → FieldType := fun k => match k with
  | _ => .int
theorem nmJ2 : ∀ a, a < 0 → ∀ b, b < 0 → a ≠ b → (TJ2 a).2.1 ≠ (TJ2 b).2.1 := by decide +kernel
theorem tyJ2_ok : ∀ k, k < 0 → parseFieldDescriptor (TJ2 k).2.2.1 = some (tyJ2 k) := by decide +kernel
abbrev cJ2_getChar_3b067 : ByteArray := prog_17_method_5_code
def yJ2_getChar_3b067 : MethodName := ⟨RJ2, "getChar", "([BI)C"⟩
abbrev cJ2_length_9d52b : ByteArray := prog_17_method_6_code
def yJ2_length_9d52b : MethodName := ⟨RJ2, "length", "([B)I"⟩
abbrev cJ2_charAt_3b067 : ByteArray := prog_17_method_83_code
def yJ2_charAt_3b067 : MethodName := ⟨RJ2, "charAt", "([BI)C"⟩
abbrev cJ2_checkIndex_2214a : ByteArray := prog_17_method_91_code
def yJ2_checkIndex_2214a : MethodName := ⟨RJ2, "checkIndex", "(I[B)V"⟩
def RJ10 : String := "java/lang/System"
def TJ10 : u_T := fun k => match k with
  | _ => ("", "", "", false)
def tyJ10 : Nat → FieldType := fun k => match k with
  | _ => .int
theorem nmJ10 : ∀ a, a < 0 → ∀ b, b < 0 → a ≠ b → (TJ10 a).2.1 ≠ (TJ10 b).2.1 := by decide +kernel
theorem tyJ10_ok : ∀ k, k < 0 → parseFieldDescriptor (TJ10 k).2.2.1 = some (tyJ10 k) := by decide +kernel
def RJxfd54e : String := "java/lang/constant/Constable"
def TJxfd54e : u_T := fun k => match k with
  | _ => ("", "", "", false)
def tyJxfd54e : Nat → FieldType := fun k => match k with
  | _ => .int
theorem nmJxfd54e : ∀ a, a < 0 → ∀ b, b < 0 → a ≠ b → (TJxfd54e a).2.1 ≠ (TJxfd54e b).2.1 := by decide +kernel
theorem tyJxfd54e_ok : ∀ k, k < 0 → parseFieldDescriptor (TJxfd54e k).2.2.1 = some (tyJxfd54e k) := by decide +kernel
def RJx3cf43 : String := "java/lang/constant/ConstantDesc"
def TJx3cf43 : u_T := fun k => match k with
  | _ => ("", "", "", false)
def tyJx3cf43 : Nat → FieldType := fun k => match k with
  | _ => .int
theorem nmJx3cf43 : ∀ a, a < 0 → ∀ b, b < 0 → a ≠ b → (TJx3cf43 a).2.1 ≠ (TJx3cf43 b).2.1 := by decide +kernel
theorem tyJx3cf43_ok : ∀ k, k < 0 → parseFieldDescriptor (TJx3cf43 k).2.2.1 = some (tyJx3cf43 k) := by decide +kernel
def RJ7 : String := "java/util/Arrays"
def TJ7 : u_T := fun k => match k with
  | _ => ("", "", "", false)
def tyJ7 : Nat → FieldType := fun k => match k with
  | _ => .int
theorem nmJ7 : ∀ a, a < 0 → ∀ b, b < 0 → a ≠ b → (TJ7 a).2.1 ≠ (TJ7 b).2.1 := by decide +kernel
theorem tyJ7_ok : ∀ k, k < 0 → parseFieldDescriptor (TJ7 k).2.2.1 = some (tyJ7 k) := by decide +kernel
abbrev cJ7_fill_d0a16 : ByteArray := prog_19_method_101_code
def yJ7_fill_d0a16 : MethodName := ⟨RJ7, "fill", "([JJ)V"⟩
abbrev cJ7_fill_53178 : ByteArray := prog_19_method_103_code
def yJ7_fill_53178 : MethodName := ⟨RJ7, "fill", "([II)V"⟩
def RJ3 : String := "jdk/internal/util/Preconditions"
def TJ3 : u_T := fun k => match k with
  | _ => ("", "", "", false)
def tyJ3 : Nat → FieldType := fun k => match k with
  | _ => .int
theorem nmJ3 : ∀ a, a < 0 → ∀ b, b < 0 → a ≠ b → (TJ3 a).2.1 ≠ (TJ3 b).2.1 := by decide +kernel
theorem tyJ3_ok : ∀ k, k < 0 → parseFieldDescriptor (TJ3 k).2.2.1 = some (tyJ3 k) := by decide +kernel
abbrev cJ3_checkIndex_8e157 : ByteArray := prog_20_method_11_code
def yJ3_checkIndex_8e157 : MethodName := ⟨RJ3, "checkIndex", "(IILjava/util/function/BiFunction;)I"⟩
def RL : String := "HandedVoicesLaw"
abbrev cL_law : ByteArray := code
def yL_law : MethodName := ⟨RL, "law", "([I)Z"⟩
abbrev vwCl : List vw_C := [(RX0, TX0, 5), (RX1, TX1, 6), (RX2, TX2, 9), (RX3, TX3, 5), (RX4, TX4, 6), (RX5, TX5, 11), (RX6, TX6, 10), (RX7, TX7, 3), (RX8, TX8, 5), (RX9, TX9, 8), (RX10, TX10, 52)]
end
section
-- THE ABSTRACT MACHINE: one statement about a frame over an abstract world, and a row for each instruction, proved once out of the kit's rows
def hv_all : List Cond := lw_tbl.filter goodWord
def hv_isN : Cond → Bool
  | .fieldLinkNest .. => true
  | .methodLinkNest .. => true
  | _ => false
def hv_nst : List Cond := tables_1.filter hv_isN
/-- a method: its name, bytes, locals, what it answers -/
abbrev hv_M : Type := MethodName × ByteArray × Nat × Option FieldType
def hv_w (M : hv_M) : List Cond := .code M.1 M.2.1 M.2.2.1 M.2.2.2 :: hv_all
/-- what stands at a place: an object (class, kinds of its fields), or an array (kind, length) -/
abbrev hv_Sh : Type := (Nat × List (Nat × Nat)) ⊕ (Nat × Nat)
/-- ints (fields, items, booleans too), longs, references: by place and slot -/
abbrev hv_S : Type := (Nat → Nat → Int32) × (Nat → Nat → Int64) × (Nat → Nat → Nat)
def hv_fv (σ : hv_S) (k j : Nat) (ft : Nat × Nat) : Value := match ft.1 with
  | 0 => .int (σ.1 k j)
  | 1 => .int (σ.1 k j)
  | 2 => .long (σ.2.1 k j)
  | 3 => .ref ft.2
  | 4 => .ref (k + ft.2)
  | _ => .ref (σ.2.2 k j)
def hv_fs (σ : hv_S) (k : Nat) : Nat → List (Nat × Nat) → List Value
  | _, [] => []
  | j, ft :: r => hv_fv σ k j ft :: hv_fs σ k (j + 1) r
def hv_cv (al : Nat → Nat) : Value → Value
  | .ref a => .ref (al a)
  | v => v
/-- shapes, places, addresses, classes, array classes, what may be written -/
abbrev hv_E : Type := (Nat → hv_Sh) × List Nat × (Nat → Nat) × va_G × (Nat → ClassId) × (Nat → Prop)
abbrev hv_sh (E : hv_E) : Nat → hv_Sh := E.1
abbrev hv_pl (E : hv_E) : List Nat := E.2.1
abbrev hv_al (E : hv_E) : Nat → Nat := E.2.2.1
abbrev hv_D (E : hv_E) : va_G := E.2.2.2.1
abbrev hv_T (E : hv_E) : Nat → ClassId := E.2.2.2.2.1
abbrev hv_A (E : hv_E) : Nat → Prop := E.2.2.2.2.2
def hv_cell (al : Nat → Nat) (T : Nat → ClassId) (σ : hv_S) (k : Nat) : hv_Sh → va_E
  | .inl o => .inr (o.1, (hv_fs σ k 0 o.2).map (hv_cv al))
  | .inr a => match a.1 with
    | 0 => .inl (T 0, a.2, .inl (σ.1 k))
    | 1 => .inl (T 1, a.2, .inr (.inl (σ.2.1 k)))
    | 2 => .inl (T 2, a.2, .inl (σ.1 k))
    | t + 3 => .inl (T 3, a.2, .inr (.inr (.inr (.inr (fun i => if i < a.2 then some (al (t + i)) else none)))))
def hv_at (E : hv_E) (σ : hv_S) (k : Nat) : Nat × va_E := (hv_al E k, hv_cell (hv_al E) (hv_T E) σ k (hv_sh E k))
def hv_ws (E : hv_E) (σ : hv_S) : va_W := (hv_pl E).map (hv_at E σ)
def hv_tys (E : hv_E) : List (ClassId × FieldType) := [(hv_T E 0, .int), (hv_T E 1, .long), (hv_T E 2, .boolean), (hv_T E 3, .array .long)]
-- the seven literals of the class, and the statics that the JDK's texts look at
def hv_si : List Nat := [38, 48, 59, 64, 81, 103, 109]
def hv_sx : List String := ["bar ", "cap ", "need ", "ring ", " ", "abmsq", "<=>"]
def hv_len : List Nat := [4, 4, 5, 5, 1, 5, 3]
def hv_byt : List (List Int32) := [[98, 97, 114, 32], [99, 97, 112, 32], [110, 101, 101, 100, 32], [114, 105, 110, 103, 32], [32], [97, 98, 109, 115, 113], [60, 61, 62]]
def hv_O (E : hv_E) (U : State) (H : Heap) : Prop := (∀ i : Nat, i < 7 → vk_R RX1 (hv_si.getD i 0) (hv_sx.getD i "") (hv_al E (1000 + i)) U) ∧ vk_S 7 hv_len hv_byt (fun i => hv_al E (1000 + i)) (fun i => hv_al E (2000 + i)) (hv_A E) U H ∧
  va_Z "java/lang/String" "COMPACT_STRINGS" "Z" (.int 1) (hv_A E) U H ∧ va_Z "jdk/internal/util/Preconditions" "SIOOBE_FORMATTER" "Ljava/util/function/BiFunction;" (.ref (hv_al E 3000)) (hv_A E) U H
def hv_P (E : hv_E) (σ : hv_S) (H : Heap) : Prop := va_P (hv_D E) vwCl (hv_ws E σ) H ∧ va_D (hv_A E) (hv_ws E σ)
def hv_K (E : hv_E) (U : State) (H : Heap) : Prop := va_K (hv_D E) vwCl (hv_tys E) U ∧ (∀ w ∈ hv_nst, va_Nw w U) ∧ hv_O E U H
theorem hv_K.moved {E : hv_E} {s U : State} {H H1 : Heap} (h : hv_K E s H) (hW : s.WarmedH U.vm) (hq : ∀ a : Nat, a < H.size → ¬ hv_A E a → H1[a]? = H[a]?) : hv_K E U H1 := by
  obtain ⟨g1, g2, g3, g4, g5, g6⟩ := h
  refine ⟨va_K.moved hW.alike g1, fun w hw => ?_, fun i hi => (g3 i hi).warm hW, (g4.moved hW.alike).kept hq, (g5.moved hW.alike).kept hq, (g6.moved hW.alike).kept hq⟩
  have h1 := g2 w hw
  have h2 : hv_isN w = true := (List.mem_filter.mp hw).2
  cases w <;> first | exact Bool.noConfusion h2 | exact va_Nw.warmF hW h1 | exact va_Nw.warmM hW h1
theorem hv_K.same {E : hv_E} {s U : State} {H : Heap} (h : hv_K E s H) (hv : s.vm = U.vm) : hv_K E U H := by
  obtain ⟨g1, g2, g3, g4, g5, g6⟩ := h
  have ha : s.vm.Alike U.vm := by rw [hv]; exact Vm.Alike.refl U.vm
  refine ⟨va_K.moved ha g1, fun w hw => ?_, fun i hi => (g3 i hi).same hv.symm, g4.moved ha, g5.moved ha, g6.moved ha⟩
  have h1 := g2 w hw
  have h2 : hv_isN w = true := (List.mem_filter.mp hw).2
  cases w <;> first | exact Bool.noConfusion h2 | exact va_Nw.same rfl hv h1
theorem hv_P.place {E : hv_E} {σ : hv_S} {k : Nat} (hk : k ∈ hv_pl E) : ∃ q0 : Nat, (hv_ws E σ)[q0]? = some (hv_at E σ k) := by
  obtain ⟨q, hq⟩ := List.getElem?_of_mem hk
  exact ⟨q, by unfold hv_ws; rw [List.getElem?_map, hq]; rfl⟩
/-- the addresses of different places are different -/
theorem hv_P.inj {E : hv_E} {σ : hv_S} {H : Heap} (h : hv_P E σ H) {i j k k' : Nat} (hi : (hv_pl E)[i]? = some k) (hj : (hv_pl E)[j]? = some k') (e : hv_al E k = hv_al E k') : i = j := by
  refine h.2.1 i j (hv_at E σ k) (hv_at E σ k') ?_ ?_ e
  · unfold hv_ws; rw [List.getElem?_map, hi]; rfl
  · unfold hv_ws; rw [List.getElem?_map, hj]; rfl
/-- a world that differs at one place only -/
theorem hv_ws_set {E : hv_E} {σ σ' : hv_S} {H : Heap} (h : hv_P E σ H) {k q0 : Nat} (hq : (hv_pl E)[q0]? = some k) (ho : ∀ j, j ∈ hv_pl E → j ≠ k → hv_at E σ' j = hv_at E σ j) : (hv_ws E σ).set q0 (hv_at E σ' k) = hv_ws E σ' := by
  apply List.ext_getElem?
  intro i
  rw [List.getElem?_set]
  have hl : q0 < (hv_ws E σ).length := by
    unfold hv_ws; rw [List.length_map]; exact (List.getElem?_eq_some_iff.mp hq).1
  by_cases hi : q0 = i
  · subst hi
    rw [if_pos rfl, if_pos hl]
    unfold hv_ws
    rw [List.getElem?_map, hq]; rfl
  · rw [if_neg hi]
    unfold hv_ws
    rw [List.getElem?_map, List.getElem?_map]
    cases hj : (hv_pl E)[i]? with
    | none => rfl
    | some k' =>
      have hne : k' ≠ k := fun e => hi (h.inj hq hj (by rw [e]))
      simp only [Option.map_some]
      rw [ho k' (List.mem_of_getElem? hj) hne]
-- updates
def hv_ui (σ : hv_S) (k j : Nat) (v : Int32) : hv_S := (fun k' j' => if k' = k ∧ j' = j then v else σ.1 k' j', σ.2.1, σ.2.2)
def hv_ul (σ : hv_S) (k j : Nat) (v : Int64) : hv_S := (σ.1, fun k' j' => if k' = k ∧ j' = j then v else σ.2.1 k' j', σ.2.2)
def hv_ur (σ : hv_S) (k j : Nat) (v : Nat) : hv_S := (σ.1, σ.2.1, fun k' j' => if k' = k ∧ j' = j then v else σ.2.2 k' j')
theorem hv_fs_congr {σ σ' : hv_S} {k : Nat} : ∀ (r : List (Nat × Nat)) (j : Nat), (∀ i, σ'.1 k i = σ.1 k i) → (∀ i, σ'.2.1 k i = σ.2.1 k i) → (∀ i, σ'.2.2 k i = σ.2.2 k i) → hv_fs σ' k j r = hv_fs σ k j r := by
  intro r
  induction r with
  | nil => intro j _ _ _; rfl
  | cons ft r ih =>
    intro j h1 h2 h3
    show hv_fv σ' k j ft :: hv_fs σ' k (j + 1) r = _
    rw [ih (j + 1) h1 h2 h3]
    show _ = hv_fv σ k j ft :: hv_fs σ k (j + 1) r
    congr 1
    unfold hv_fv
    rw [h1, h2, h3]
theorem hv_at_congr {E : hv_E} {σ σ' : hv_S} {k : Nat} (h1 : ∀ i, σ'.1 k i = σ.1 k i) (h2 : ∀ i, σ'.2.1 k i = σ.2.1 k i) (h3 : ∀ i, σ'.2.2 k i = σ.2.2 k i) : hv_at E σ' k = hv_at E σ k := by
  unfold hv_at
  congr 1
  cases hs : hv_sh E k with
  | inl o =>
    show Sum.inr (o.1, (hv_fs σ' k 0 o.2).map (hv_cv (hv_al E))) = _
    rw [hv_fs_congr o.2 0 h1 h2 h3]
    rfl
  | inr a =>
    obtain ⟨t, n⟩ := a
    have e1 : σ'.1 k = σ.1 k := funext h1
    have e2 : σ'.2.1 k = σ.2.1 k := funext h2
    match t with
    | 0 => show Sum.inl (hv_T E 0, n, Sum.inl (σ'.1 k)) = _; rw [e1]; rfl
    | 1 => show Sum.inl (hv_T E 1, n, Sum.inr (Sum.inl (σ'.2.1 k))) = _; rw [e2]; rfl
    | 2 => show Sum.inl (hv_T E 2, n, Sum.inl (σ'.1 k)) = _; rw [e1]; rfl
    | t + 3 => rfl
theorem hv_ui_at {E : hv_E} {σ : hv_S} {k j : Nat} {v : Int32} {k' : Nat} (h : k' ≠ k) : hv_at E (hv_ui σ k j v) k' = hv_at E σ k' := hv_at_congr (fun i => if_neg (fun q => h q.1)) (fun _ => rfl) (fun _ => rfl)
theorem hv_ul_at {E : hv_E} {σ : hv_S} {k j : Nat} {v : Int64} {k' : Nat} (h : k' ≠ k) : hv_at E (hv_ul σ k j v) k' = hv_at E σ k' := hv_at_congr (fun _ => rfl) (fun i => if_neg (fun q => h q.1)) (fun _ => rfl)
theorem hv_ur_at {E : hv_E} {σ : hv_S} {k j : Nat} {v : Nat} {k' : Nat} (h : k' ≠ k) : hv_at E (hv_ur σ k j v) k' = hv_at E σ k' := hv_at_congr (fun _ => rfl) (fun _ => rfl) (fun i => if_neg (fun q => h q.1))
-- fields of one object
theorem hv_fs_get {σ : hv_S} {k : Nat} : ∀ (r : List (Nat × Nat)) (j0 j : Nat) (ft : Nat × Nat), r[j]? = some ft → (hv_fs σ k j0 r)[j]? = some (hv_fv σ k (j0 + j) ft) := by
  intro r
  induction r with
  | nil => intro j0 j ft h; simp at h
  | cons f r ih =>
    intro j0 j ft h
    cases j with
    | zero => simp at h; subst h; rfl
    | succ j =>
      have := ih (j0 + 1) j ft (by simpa using h)
      show (hv_fv σ k j0 f :: hv_fs σ k (j0 + 1) r)[j + 1]? = _
      rw [List.getElem?_cons_succ, this]
      congr 2
      omega
theorem hv_fs_len {σ : hv_S} {k : Nat} : ∀ (r : List (Nat × Nat)) (j0 : Nat), (hv_fs σ k j0 r).length = r.length := by
  intro r
  induction r with
  | nil => intro _; rfl
  | cons f r ih => intro j0; show (hv_fs σ k (j0 + 1) r).length + 1 = _; rw [ih]; rfl
theorem hv_fs_ext {σ : hv_S} {k : Nat} {r : List (Nat × Nat)} {σ' : hv_S} {j : Nat} {v : Value} (hv : ∀ ft, r[j]? = some ft → hv_fv σ' k j ft = v) (ho : ∀ i ft, i ≠ j → hv_fv σ' k i ft = hv_fv σ k i ft) : (hv_fs σ k 0 r).set j v = hv_fs σ' k 0 r := by
  apply List.ext_getElem?
  intro i
  rw [List.getElem?_set, hv_fs_len]
  by_cases hi : j = i
  · subst hi
    rw [if_pos rfl]
    by_cases hl : j < r.length
    · rw [if_pos hl]
      have hf := List.getElem?_eq_getElem hl
      rw [hv_fs_get r 0 j _ hf, Nat.zero_add, hv _ hf]
    · rw [if_neg hl]
      rw [List.getElem?_eq_none (by rw [hv_fs_len]; omega)]
  · rw [if_neg hi]
    by_cases hl : i < r.length
    · have hf := List.getElem?_eq_getElem hl
      rw [hv_fs_get r 0 i _ hf, hv_fs_get r 0 i _ hf, Nat.zero_add, ho _ _ (fun e => hi e.symm)]
    · rw [List.getElem?_eq_none (by rw [hv_fs_len]; omega), List.getElem?_eq_none (by rw [hv_fs_len]; omega)]
theorem hv_cv_cat (al : Nat → Nat) (v : Value) : (hv_cv al v).category = v.category := by cases v <;> rfl
/-- what a method's body stands on -/
def hv_fix (p : Program) (s : State) (m : MethodId) (args : Array Value) (meth : Method) (c : Code) (M : hv_M) : Prop :=
  p.tables.exec = Jvm.exec ∧ c.code = M.2.1 ∧ c.maxLocals = M.2.2.1 ∧ s.vm.findClass M.1.cls = some m.cls ∧ (∀ w ∈ hv_w M, w.before args s = true) ∧ meth.sig.returnType = M.2.2.2 ∧ meth.locks = false
def hv_lo (E : hv_E) (lo : List (Nat × Value)) : List (Nat × Value) := lo.map (fun q => (q.1, hv_cv (hv_al E) q.2))
abbrev hv_Zt : Type := List Frame → Array Value → State → State → Prop
/-- A FRAME: at pc, with locals lo, stack st, in the world σ: it comes to Z -/
def hv_TW (l : Launch) (E : hv_E) (R : Room) (cells slots : Nat) (M : hv_M) (Ψ : State → Array Value → Prop) (Z : hv_Zt) (pc : Nat) (lo : List (Nat × Value)) (st : List Value) (σ : hv_S) : Prop :=
  ∀ (p : Program) (e : Env) (s : State) (m : MethodId) (args : Array Value) (below : List Frame) (meth : Method) (c : Code) (H : Heap) (locs : List Loc) (ls : Array Slot),
    hv_fix p s m args meth c M → Ψ s args → hv_K E s s.heap → hv_P E σ H → va_S (hv_A E) s.heap H locs → lv_has ls M.2.2.1 (hv_lo E lo) →
    W p l e R s m args below meth c H locs cells slots (Z below args s) (F0 m pc ls (st.map (hv_cv (hv_al E))))
end
section
-- THE ROWS: an instruction each
section T
variable {l : Launch} {E : hv_E} {R : Room} {cells slots : Nat} {M : hv_M} {Ψ : State → Array Value → Prop} {Z : hv_Zt} {pc : Nat} {lo : List (Nat × Value)} {st : List Value} {σ : hv_S}

theorem T_iadd {x y : Int32} (hd : decode M.2.1 pc = .ok (.iadd, 1)) (k : hv_TW l E R cells slots M Ψ Z (pc + 1) lo (.int (x + y) :: st) σ) : hv_TW l E R cells slots M Ψ Z pc lo (.int y :: .int x :: st) σ := by
  intro p e s m args below meth c H locs ls hf hΨ hK hP hS hl
  exact lv_iadd hf.1 hf.2.1 hd (k p e s m args below meth c H locs ls hf hΨ hK hP hS hl)
theorem T_isub {x y : Int32} (hd : decode M.2.1 pc = .ok (.isub, 1)) (k : hv_TW l E R cells slots M Ψ Z (pc + 1) lo (.int (x - y) :: st) σ) : hv_TW l E R cells slots M Ψ Z pc lo (.int y :: .int x :: st) σ := by
  intro p e s m args below meth c H locs ls hf hΨ hK hP hS hl
  exact lv_isub hf.1 hf.2.1 hd (k p e s m args below meth c H locs ls hf hΨ hK hP hS hl)
theorem T_imul {x y : Int32} (hd : decode M.2.1 pc = .ok (.imul, 1)) (k : hv_TW l E R cells slots M Ψ Z (pc + 1) lo (.int (x * y) :: st) σ) : hv_TW l E R cells slots M Ψ Z pc lo (.int y :: .int x :: st) σ := by
  intro p e s m args below meth c H locs ls hf hΨ hK hP hS hl
  exact lv_imul hf.1 hf.2.1 hd (k p e s m args below meth c H locs ls hf hΨ hK hP hS hl)
theorem T_iand {x y : Int32} (hd : decode M.2.1 pc = .ok (.iand, 1)) (k : hv_TW l E R cells slots M Ψ Z (pc + 1) lo (.int (x &&& y) :: st) σ) : hv_TW l E R cells slots M Ψ Z pc lo (.int y :: .int x :: st) σ := by
  intro p e s m args below meth c H locs ls hf hΨ hK hP hS hl
  exact lv_iand hf.1 hf.2.1 hd (k p e s m args below meth c H locs ls hf hΨ hK hP hS hl)
theorem T_ior {x y : Int32} (hd : decode M.2.1 pc = .ok (.ior, 1)) (k : hv_TW l E R cells slots M Ψ Z (pc + 1) lo (.int (x ||| y) :: st) σ) : hv_TW l E R cells slots M Ψ Z pc lo (.int y :: .int x :: st) σ := by
  intro p e s m args below meth c H locs ls hf hΨ hK hP hS hl
  exact lv_ior hf.1 hf.2.1 hd (k p e s m args below meth c H locs ls hf hΨ hK hP hS hl)
theorem T_ixor {x y : Int32} (hd : decode M.2.1 pc = .ok (.ixor, 1)) (k : hv_TW l E R cells slots M Ψ Z (pc + 1) lo (.int (x ^^^ y) :: st) σ) : hv_TW l E R cells slots M Ψ Z pc lo (.int y :: .int x :: st) σ := by
  intro p e s m args below meth c H locs ls hf hΨ hK hP hS hl
  exact lv_ixor hf.1 hf.2.1 hd (k p e s m args below meth c H locs ls hf hΨ hK hP hS hl)
theorem T_ladd {x y : Int64} (hd : decode M.2.1 pc = .ok (.ladd, 1)) (k : hv_TW l E R cells slots M Ψ Z (pc + 1) lo (.long (x + y) :: st) σ) : hv_TW l E R cells slots M Ψ Z pc lo (.long y :: .long x :: st) σ := by
  intro p e s m args below meth c H locs ls hf hΨ hK hP hS hl
  exact lv_ladd hf.1 hf.2.1 hd (k p e s m args below meth c H locs ls hf hΨ hK hP hS hl)
theorem T_lsub {x y : Int64} (hd : decode M.2.1 pc = .ok (.lsub, 1)) (k : hv_TW l E R cells slots M Ψ Z (pc + 1) lo (.long (x - y) :: st) σ) : hv_TW l E R cells slots M Ψ Z pc lo (.long y :: .long x :: st) σ := by
  intro p e s m args below meth c H locs ls hf hΨ hK hP hS hl
  exact lv_lsub hf.1 hf.2.1 hd (k p e s m args below meth c H locs ls hf hΨ hK hP hS hl)
theorem T_lmul {x y : Int64} (hd : decode M.2.1 pc = .ok (.lmul, 1)) (k : hv_TW l E R cells slots M Ψ Z (pc + 1) lo (.long (x * y) :: st) σ) : hv_TW l E R cells slots M Ψ Z pc lo (.long y :: .long x :: st) σ := by
  intro p e s m args below meth c H locs ls hf hΨ hK hP hS hl
  exact lv_lmul hf.1 hf.2.1 hd (k p e s m args below meth c H locs ls hf hΨ hK hP hS hl)
theorem T_land {x y : Int64} (hd : decode M.2.1 pc = .ok (.land, 1)) (k : hv_TW l E R cells slots M Ψ Z (pc + 1) lo (.long (x &&& y) :: st) σ) : hv_TW l E R cells slots M Ψ Z pc lo (.long y :: .long x :: st) σ := by
  intro p e s m args below meth c H locs ls hf hΨ hK hP hS hl
  exact lv_land hf.1 hf.2.1 hd (k p e s m args below meth c H locs ls hf hΨ hK hP hS hl)
theorem T_lor {x y : Int64} (hd : decode M.2.1 pc = .ok (.lor, 1)) (k : hv_TW l E R cells slots M Ψ Z (pc + 1) lo (.long (x ||| y) :: st) σ) : hv_TW l E R cells slots M Ψ Z pc lo (.long y :: .long x :: st) σ := by
  intro p e s m args below meth c H locs ls hf hΨ hK hP hS hl
  exact lv_lor hf.1 hf.2.1 hd (k p e s m args below meth c H locs ls hf hΨ hK hP hS hl)
theorem T_idiv {x y : Int32} (hd : decode M.2.1 pc = .ok (.idiv, 1)) (hne : ¬ y = 0) (k : hv_TW l E R cells slots M Ψ Z (pc + 1) lo (.int (x / y) :: st) σ) : hv_TW l E R cells slots M Ψ Z pc lo (.int y :: .int x :: st) σ := by
  intro p e s m args below meth c H locs ls hf hΨ hK hP hS hl
  exact lv_idiv hf.1 hf.2.1 hd hne (k p e s m args below meth c H locs ls hf hΨ hK hP hS hl)
theorem T_ldiv {x y : Int64} (hd : decode M.2.1 pc = .ok (.ldiv, 1)) (hne : ¬ y = 0) (k : hv_TW l E R cells slots M Ψ Z (pc + 1) lo (.long (x / y) :: st) σ) : hv_TW l E R cells slots M Ψ Z pc lo (.long y :: .long x :: st) σ := by
  intro p e s m args below meth c H locs ls hf hΨ hK hP hS hl
  exact lv_ldiv hf.1 hf.2.1 hd hne (k p e s m args below meth c H locs ls hf hΨ hK hP hS hl)
theorem T_irem {x y : Int32} (hd : decode M.2.1 pc = .ok (.irem, 1)) (hne : ¬ y = 0) (k : hv_TW l E R cells slots M Ψ Z (pc + 1) lo (.int (x - x / y * y) :: st) σ) : hv_TW l E R cells slots M Ψ Z pc lo (.int y :: .int x :: st) σ := by
  intro p e s m args below meth c H locs ls hf hΨ hK hP hS hl
  exact lv_irem hf.1 hf.2.1 hd hne (k p e s m args below meth c H locs ls hf hΨ hK hP hS hl)
theorem T_lrem {x y : Int64} (hd : decode M.2.1 pc = .ok (.lrem, 1)) (hne : ¬ y = 0) (k : hv_TW l E R cells slots M Ψ Z (pc + 1) lo (.long (x - x / y * y) :: st) σ) : hv_TW l E R cells slots M Ψ Z pc lo (.long y :: .long x :: st) σ := by
  intro p e s m args below meth c H locs ls hf hΨ hK hP hS hl
  exact lv_lrem hf.1 hf.2.1 hd hne (k p e s m args below meth c H locs ls hf hΨ hK hP hS hl)
theorem T_ishl {x y : Int32} (hd : decode M.2.1 pc = .ok (.ishl, 1)) (k : hv_TW l E R cells slots M Ψ Z (pc + 1) lo (.int (x <<< (y &&& 31)) :: st) σ) : hv_TW l E R cells slots M Ψ Z pc lo (.int y :: .int x :: st) σ := by
  intro p e s m args below meth c H locs ls hf hΨ hK hP hS hl
  exact lv_ishl hf.1 hf.2.1 hd (k p e s m args below meth c H locs ls hf hΨ hK hP hS hl)
theorem T_ishr {x y : Int32} (hd : decode M.2.1 pc = .ok (.ishr, 1)) (k : hv_TW l E R cells slots M Ψ Z (pc + 1) lo (.int (x >>> (y &&& 31)) :: st) σ) : hv_TW l E R cells slots M Ψ Z pc lo (.int y :: .int x :: st) σ := by
  intro p e s m args below meth c H locs ls hf hΨ hK hP hS hl
  exact lv_ishr hf.1 hf.2.1 hd (k p e s m args below meth c H locs ls hf hΨ hK hP hS hl)
theorem T_iushr {x y : Int32} (hd : decode M.2.1 pc = .ok (.iushr, 1)) (k : hv_TW l E R cells slots M Ψ Z (pc + 1) lo (.int (x.toUInt32 >>> (y.toUInt32 &&& Int32.toUInt32 31)).toInt32 :: st) σ) : hv_TW l E R cells slots M Ψ Z pc lo (.int y :: .int x :: st) σ := by
  intro p e s m args below meth c H locs ls hf hΨ hK hP hS hl
  exact lv_iushr hf.1 hf.2.1 hd rfl (k p e s m args below meth c H locs ls hf hΨ hK hP hS hl)
theorem T_ineg {x : Int32} (hd : decode M.2.1 pc = .ok (.ineg, 1)) (k : hv_TW l E R cells slots M Ψ Z (pc + 1) lo (.int (-x) :: st) σ) : hv_TW l E R cells slots M Ψ Z pc lo (.int x :: st) σ := by
  intro p e s m args below meth c H locs ls hf hΨ hK hP hS hl
  exact lv_ineg hf.1 hf.2.1 hd (k p e s m args below meth c H locs ls hf hΨ hK hP hS hl)
theorem T_i2l {x : Int32} (hd : decode M.2.1 pc = .ok (.i2l, 1)) (k : hv_TW l E R cells slots M Ψ Z (pc + 1) lo (.long x.toInt64 :: st) σ) : hv_TW l E R cells slots M Ψ Z pc lo (.int x :: st) σ := by
  intro p e s m args below meth c H locs ls hf hΨ hK hP hS hl
  exact lv_i2l hf.1 hf.2.1 hd rfl (k p e s m args below meth c H locs ls hf hΨ hK hP hS hl)
theorem T_l2i {x : Int64} (hd : decode M.2.1 pc = .ok (.l2i, 1)) (k : hv_TW l E R cells slots M Ψ Z (pc + 1) lo (.int x.toInt32 :: st) σ) : hv_TW l E R cells slots M Ψ Z pc lo (.long x :: st) σ := by
  intro p e s m args below meth c H locs ls hf hΨ hK hP hS hl
  exact lv_l2i hf.1 hf.2.1 hd rfl (k p e s m args below meth c H locs ls hf hΨ hK hP hS hl)
theorem T_i2b {x : Int32} (hd : decode M.2.1 pc = .ok (.i2b, 1)) (k : hv_TW l E R cells slots M Ψ Z (pc + 1) lo (.int x.toInt8.toInt32 :: st) σ) : hv_TW l E R cells slots M Ψ Z pc lo (.int x :: st) σ := by
  intro p e s m args below meth c H locs ls hf hΨ hK hP hS hl
  exact lv_i2b hf.1 hf.2.1 hd rfl (k p e s m args below meth c H locs ls hf hΨ hK hP hS hl)
theorem T_i2s {x : Int32} (hd : decode M.2.1 pc = .ok (.i2s, 1)) (k : hv_TW l E R cells slots M Ψ Z (pc + 1) lo (.int x.toInt16.toInt32 :: st) σ) : hv_TW l E R cells slots M Ψ Z pc lo (.int x :: st) σ := by
  intro p e s m args below meth c H locs ls hf hΨ hK hP hS hl
  exact lv_i2s hf.1 hf.2.1 hd rfl (k p e s m args below meth c H locs ls hf hΨ hK hP hS hl)
theorem T_i2c {x : Int32} (hd : decode M.2.1 pc = .ok (.i2c, 1)) (k : hv_TW l E R cells slots M Ψ Z (pc + 1) lo (.int (x.toUInt32 % 65536).toInt32 :: st) σ) : hv_TW l E R cells slots M Ψ Z pc lo (.int x :: st) σ := by
  intro p e s m args below meth c H locs ls hf hΨ hK hP hS hl
  exact lv_i2c hf.1 hf.2.1 hd rfl (k p e s m args below meth c H locs ls hf hΨ hK hP hS hl)
theorem T_lshl {x : Int64} {y : Int32} (hd : decode M.2.1 pc = .ok (.lshl, 1)) (k : hv_TW l E R cells slots M Ψ Z (pc + 1) lo (.long (x <<< (y.toInt64 &&& 63)) :: st) σ) : hv_TW l E R cells slots M Ψ Z pc lo (.int y :: .long x :: st) σ := by
  intro p e s m args below meth c H locs ls hf hΨ hK hP hS hl
  exact lv_lshl hf.1 hf.2.1 hd rfl (k p e s m args below meth c H locs ls hf hΨ hK hP hS hl)
theorem T_lcmp {x y : Int64} (hd : decode M.2.1 pc = .ok (.lcmp, 1)) (k : hv_TW l E R cells slots M Ψ Z (pc + 1) lo (.int (lg_cmp x y) :: st) σ) : hv_TW l E R cells slots M Ψ Z pc lo (.long y :: .long x :: st) σ := by
  intro p e s m args below meth c H locs ls hf hΨ hK hP hS hl
  exact W.lcmp hf.1 hf.2.1 hd (k p e s m args below meth c H locs ls hf hΨ hK hP hS hl)
theorem T_iconst {n : Int} {v : Int32} (hd : decode M.2.1 pc = .ok (.iconst n, 1)) (hv : Int32.ofInt n = v) (k : hv_TW l E R cells slots M Ψ Z (pc + 1) lo (.int v :: st) σ) : hv_TW l E R cells slots M Ψ Z pc lo st σ := by
  intro p e s m args below meth c H locs ls hf hΨ hK hP hS hl
  exact lv_iconst hf.1 hf.2.1 hd hv (k p e s m args below meth c H locs ls hf hΨ hK hP hS hl)
theorem T_bipush {n : Int} {v : Int32} (hd : decode M.2.1 pc = .ok (.bipush n, 2)) (hv : (Int8.ofInt n).toInt32 = v) (k : hv_TW l E R cells slots M Ψ Z (pc + 2) lo (.int v :: st) σ) : hv_TW l E R cells slots M Ψ Z pc lo st σ := by
  intro p e s m args below meth c H locs ls hf hΨ hK hP hS hl
  exact lv_bipush hf.1 hf.2.1 hd hv (k p e s m args below meth c H locs ls hf hΨ hK hP hS hl)
theorem T_sipush {n : Int} {v : Int32} (hd : decode M.2.1 pc = .ok (.sipush n, 3)) (hv : (Int16.ofInt n).toInt32 = v) (k : hv_TW l E R cells slots M Ψ Z (pc + 3) lo (.int v :: st) σ) : hv_TW l E R cells slots M Ψ Z pc lo st σ := by
  intro p e s m args below meth c H locs ls hf hΨ hK hP hS hl
  exact lv_sipush hf.1 hf.2.1 hd hv (k p e s m args below meth c H locs ls hf hΨ hK hP hS hl)
theorem T_lconst {n : Fin 2} {v : Int64} (hd : decode M.2.1 pc = .ok (.lconst n, 1)) (hv : Int64.ofNat (n : Nat) = v) (k : hv_TW l E R cells slots M Ψ Z (pc + 1) lo (.long v :: st) σ) : hv_TW l E R cells slots M Ψ Z pc lo st σ := by
  intro p e s m args below meth c H locs ls hf hΨ hK hP hS hl
  exact lv_lconst hf.1 hf.2.1 hd hv (k p e s m args below meth c H locs ls hf hΨ hK hP hS hl)
theorem T_ldc {i : Nat} {v : Int32} (hd : decode M.2.1 pc = .ok (.ldc i, 2)) (hw : Cond.constant M.1.cls i v ∈ hv_all) (k : hv_TW l E R cells slots M Ψ Z (pc + 2) lo (.int v :: st) σ) : hv_TW l E R cells slots M Ψ Z pc lo st σ := by
  intro p e s m args below meth c H locs ls hf hΨ hK hP hS hl
  exact lv_ldc hf.1 hf.2.1 hf.2.2.2.1 (hf.2.2.2.2.1 _ (List.mem_cons_of_mem _ hw)) hd (k p e s m args below meth c H locs ls hf hΨ hK hP hS hl)
theorem T_ldc2 {i : Nat} {v : Int64} (hd : decode M.2.1 pc = .ok (.ldc2_w i, 3)) (hw : Cond.constantLong M.1.cls i v ∈ hv_all) (k : hv_TW l E R cells slots M Ψ Z (pc + 3) lo (.long v :: st) σ) : hv_TW l E R cells slots M Ψ Z pc lo st σ := by
  intro p e s m args below meth c H locs ls hf hΨ hK hP hS hl
  exact lv_ldc2 hf.1 hf.2.1 hf.2.2.2.1 (hf.2.2.2.2.1 _ (List.mem_cons_of_mem _ hw)) hd (k p e s m args below meth c H locs ls hf hΨ hK hP hS hl)
theorem hv_lo_get {lo : List (Nat × Value)} {k i : Nat} {v : Value} (h : lo[k]? = some (i, v)) : (hv_lo E lo)[k]? = some (i, hv_cv (hv_al E) v) := by
  unfold hv_lo
  rw [List.getElem?_map, h]
  rfl
def hv_f1 (i : Nat) (q : Nat × Value) : Bool := !(q.1 == i) && !(q.1 + 1 == i && q.2.category == 2)
def hv_f2 (i : Nat) (q : Nat × Value) : Bool := !(q.1 == i) && (!(q.1 == i + 1) && !(q.1 + 1 == i && q.2.category == 2))
theorem hv_lo_f {f : Nat × Value → Bool} (hf : ∀ q : Nat × Value, f (q.1, hv_cv (hv_al E) q.2) = f q) (lo : List (Nat × Value)) : (hv_lo E lo).filter f = hv_lo E (lo.filter f) := by
  induction lo with
  | nil => rfl
  | cons q lo ih =>
    show List.filter f ((q.1, hv_cv (hv_al E) q.2) :: hv_lo E lo) = _
    rw [List.filter_cons, List.filter_cons, hf q]
    cases f q with
    | true => simp only [if_true]; rw [ih]; rfl
    | false => simp only [Bool.false_eq_true, if_false]; exact ih
theorem hv_lo_f1 (i : Nat) (lo : List (Nat × Value)) : (hv_lo E lo).filter (fun q => !(q.1 == i) && !(q.1 + 1 == i && q.2.category == 2)) = hv_lo E (lo.filter (hv_f1 i)) := hv_lo_f (f := hv_f1 i) (fun q => by unfold hv_f1; rw [hv_cv_cat]) lo
theorem hv_lo_f2 (i : Nat) (lo : List (Nat × Value)) : (hv_lo E lo).filter (fun q => !(q.1 == i) && (!(q.1 == i + 1) && !(q.1 + 1 == i && q.2.category == 2))) = hv_lo E (lo.filter (hv_f2 i)) := hv_lo_f (f := hv_f2 i) (fun q => by unfold hv_f2; rw [hv_cv_cat]) lo
theorem T_sub {lo' : List (Nat × Value)} (ks : List Nat) (h : lv_pick lo ks = lo') (k : hv_TW l E R cells slots M Ψ Z pc lo' st σ) : hv_TW l E R cells slots M Ψ Z pc lo st σ := by
  intro p e s m args below meth c H locs ls hf hΨ hK hP hS hl
  refine k p e s m args below meth c H locs ls hf hΨ hK hP hS (lv_sub hl ks ?_)
  rw [← h]
  unfold lv_pick hv_lo
  rw [List.map_filterMap]
  congr 1
  funext i
  rw [List.getElem?_map]
theorem T_iload_n {n : Fin 4} {i : Nat} {x : Int32} (hd : decode M.2.1 pc = .ok (.iload_n n, 1)) (hi : (n : Nat) = i) (j : Nat) (hj : lo[j]? = some (i, .int x)) (k : hv_TW l E R cells slots M Ψ Z (pc + 1) lo (.int x :: st) σ) : hv_TW l E R cells slots M Ψ Z pc lo st σ := by
  intro p e s m args below meth c H locs ls hf hΨ hK hP hS hl
  exact lv_iload_n hf.1 hf.2.1 hd hi (lv_at hl j (hv_lo_get hj)) (k p e s m args below meth c H locs ls hf hΨ hK hP hS hl)
theorem T_iload {i : Nat} {x : Int32} (hd : decode M.2.1 pc = .ok (.iload i, 2)) (j : Nat) (hj : lo[j]? = some (i, .int x)) (k : hv_TW l E R cells slots M Ψ Z (pc + 2) lo (.int x :: st) σ) : hv_TW l E R cells slots M Ψ Z pc lo st σ := by
  intro p e s m args below meth c H locs ls hf hΨ hK hP hS hl
  exact lv_iload hf.1 hf.2.1 hd (lv_at hl j (hv_lo_get hj)) (k p e s m args below meth c H locs ls hf hΨ hK hP hS hl)
theorem T_lload_n {n : Fin 4} {i : Nat} {x : Int64} (hd : decode M.2.1 pc = .ok (.lload_n n, 1)) (hi : (n : Nat) = i) (j : Nat) (hj : lo[j]? = some (i, .long x)) (k : hv_TW l E R cells slots M Ψ Z (pc + 1) lo (.long x :: st) σ) : hv_TW l E R cells slots M Ψ Z pc lo st σ := by
  intro p e s m args below meth c H locs ls hf hΨ hK hP hS hl
  exact lv_lload_n hf.1 hf.2.1 hd hi (lv_at hl j (hv_lo_get hj)) (k p e s m args below meth c H locs ls hf hΨ hK hP hS hl)
theorem T_lload {i : Nat} {x : Int64} (hd : decode M.2.1 pc = .ok (.lload i, 2)) (j : Nat) (hj : lo[j]? = some (i, .long x)) (k : hv_TW l E R cells slots M Ψ Z (pc + 2) lo (.long x :: st) σ) : hv_TW l E R cells slots M Ψ Z pc lo st σ := by
  intro p e s m args below meth c H locs ls hf hΨ hK hP hS hl
  exact lv_lload hf.1 hf.2.1 hd (lv_at hl j (hv_lo_get hj)) (k p e s m args below meth c H locs ls hf hΨ hK hP hS hl)
theorem T_aload_n {n : Fin 4} {i : Nat} {x : Nat} (hd : decode M.2.1 pc = .ok (.aload_n n, 1)) (hi : (n : Nat) = i) (j : Nat) (hj : lo[j]? = some (i, .ref x)) (k : hv_TW l E R cells slots M Ψ Z (pc + 1) lo (.ref x :: st) σ) : hv_TW l E R cells slots M Ψ Z pc lo st σ := by
  intro p e s m args below meth c H locs ls hf hΨ hK hP hS hl
  exact lv_aload_n hf.1 hf.2.1 hd hi (lv_at hl j (hv_lo_get hj)) (k p e s m args below meth c H locs ls hf hΨ hK hP hS hl)
theorem T_aload {i : Nat} {x : Nat} (hd : decode M.2.1 pc = .ok (.aload i, 2)) (j : Nat) (hj : lo[j]? = some (i, .ref x)) (k : hv_TW l E R cells slots M Ψ Z (pc + 2) lo (.ref x :: st) σ) : hv_TW l E R cells slots M Ψ Z pc lo st σ := by
  intro p e s m args below meth c H locs ls hf hΨ hK hP hS hl
  exact lv_aload hf.1 hf.2.1 hd (lv_at hl j (hv_lo_get hj)) (k p e s m args below meth c H locs ls hf hΨ hK hP hS hl)
theorem T_istore_n {n : Fin 4} {i : Nat} {x : Int32} {lo' : List (Nat × Value)} (hd : decode M.2.1 pc = .ok (.istore_n n, 1)) (hi : (n : Nat) = i) (hn : i < M.2.2.1) (hq : (i, .int x) :: lo.filter (hv_f1 i) = lo') (k : hv_TW l E R cells slots M Ψ Z (pc + 1) lo' st σ) : hv_TW l E R cells slots M Ψ Z pc lo (.int x :: st) σ := by
  intro p e s m args below meth c H locs ls hf hΨ hK hP hS hl
  exact lv_istore_n hf.1 hf.2.1 hd hi hl hn (by rw [hv_lo_f1, ← hq]; rfl) (fun ls' hl' => k p e s m args below meth c H locs ls' hf hΨ hK hP hS hl')
theorem T_istore {i : Nat} {x : Int32} {lo' : List (Nat × Value)} (hd : decode M.2.1 pc = .ok (.istore i, 2)) (hn : i < M.2.2.1) (hq : (i, .int x) :: lo.filter (hv_f1 i) = lo') (k : hv_TW l E R cells slots M Ψ Z (pc + 2) lo' st σ) : hv_TW l E R cells slots M Ψ Z pc lo (.int x :: st) σ := by
  intro p e s m args below meth c H locs ls hf hΨ hK hP hS hl
  exact lv_istore hf.1 hf.2.1 hd hl hn (by rw [hv_lo_f1, ← hq]; rfl) (fun ls' hl' => k p e s m args below meth c H locs ls' hf hΨ hK hP hS hl')
theorem T_lstore_n {n : Fin 4} {i : Nat} {x : Int64} {lo' : List (Nat × Value)} (hd : decode M.2.1 pc = .ok (.lstore_n n, 1)) (hi : (n : Nat) = i) (hn : i + 1 < M.2.2.1) (hq : (i, .long x) :: lo.filter (hv_f2 i) = lo') (k : hv_TW l E R cells slots M Ψ Z (pc + 1) lo' st σ) : hv_TW l E R cells slots M Ψ Z pc lo (.long x :: st) σ := by
  intro p e s m args below meth c H locs ls hf hΨ hK hP hS hl
  exact lv_lstore_n hf.1 hf.2.1 hd hi hl hn (by rw [hv_lo_f2, ← hq]; rfl) (fun ls' hl' => k p e s m args below meth c H locs ls' hf hΨ hK hP hS hl')
theorem T_lstore {i : Nat} {x : Int64} {lo' : List (Nat × Value)} (hd : decode M.2.1 pc = .ok (.lstore i, 2)) (hn : i + 1 < M.2.2.1) (hq : (i, .long x) :: lo.filter (hv_f2 i) = lo') (k : hv_TW l E R cells slots M Ψ Z (pc + 2) lo' st σ) : hv_TW l E R cells slots M Ψ Z pc lo (.long x :: st) σ := by
  intro p e s m args below meth c H locs ls hf hΨ hK hP hS hl
  exact lv_lstore hf.1 hf.2.1 hd hl hn (by rw [hv_lo_f2, ← hq]; rfl) (fun ls' hl' => k p e s m args below meth c H locs ls' hf hΨ hK hP hS hl')
theorem T_astore_n {n : Fin 4} {i : Nat} {x : Nat} {lo' : List (Nat × Value)} (hd : decode M.2.1 pc = .ok (.astore_n n, 1)) (hi : (n : Nat) = i) (hn : i < M.2.2.1) (hq : (i, .ref x) :: lo.filter (hv_f1 i) = lo') (k : hv_TW l E R cells slots M Ψ Z (pc + 1) lo' st σ) : hv_TW l E R cells slots M Ψ Z pc lo (.ref x :: st) σ := by
  intro p e s m args below meth c H locs ls hf hΨ hK hP hS hl
  exact lv_astore_n hf.1 hf.2.1 hd hi hl hn (by rw [hv_lo_f1, ← hq]; rfl) (fun ls' hl' => k p e s m args below meth c H locs ls' hf hΨ hK hP hS hl')
theorem T_astore {i : Nat} {x : Nat} {lo' : List (Nat × Value)} (hd : decode M.2.1 pc = .ok (.astore i, 2)) (hn : i < M.2.2.1) (hq : (i, .ref x) :: lo.filter (hv_f1 i) = lo') (k : hv_TW l E R cells slots M Ψ Z (pc + 2) lo' st σ) : hv_TW l E R cells slots M Ψ Z pc lo (.ref x :: st) σ := by
  intro p e s m args below meth c H locs ls hf hΨ hK hP hS hl
  exact lv_astore hf.1 hf.2.1 hd hl hn (by rw [hv_lo_f1, ← hq]; rfl) (fun ls' hl' => k p e s m args below meth c H locs ls' hf hΨ hK hP hS hl')
theorem T_iinc {i : Nat} {n : Int} {x v : Int32} {lo' : List (Nat × Value)} (hd : decode M.2.1 pc = .ok (.iinc i n, 3)) (j : Nat) (hj : lo[j]? = some (i, .int x)) (hv : x + Int32.ofInt n = v) (hn : i < M.2.2.1) (hq : (i, .int v) :: lo.filter (hv_f1 i) = lo') (k : hv_TW l E R cells slots M Ψ Z (pc + 3) lo' st σ) : hv_TW l E R cells slots M Ψ Z pc lo st σ := by
  intro p e s m args below meth c H locs ls hf hΨ hK hP hS hl
  exact lv_iinc hf.1 hf.2.1 hd hl (hv_lo_get hj) hv hn (by rw [hv_lo_f1, ← hq]; rfl) (fun ls' hl' => k p e s m args below meth c H locs ls' hf hΨ hK hP hS hl')
theorem T_dup {v : Value} (hd : decode M.2.1 pc = .ok (.dup, 1)) (hv : v.category = 1) (k : hv_TW l E R cells slots M Ψ Z (pc + 1) lo (v :: v :: st) σ) : hv_TW l E R cells slots M Ψ Z pc lo (v :: st) σ := by
  intro p e s m args below meth c H locs ls hf hΨ hK hP hS hl
  exact lv_dup hf.1 hf.2.1 hd (by rw [hv_cv_cat]; exact hv) (k p e s m args below meth c H locs ls hf hΨ hK hP hS hl)
theorem T_pop {v : Value} (hd : decode M.2.1 pc = .ok (.pop, 1)) (hv : v.category = 1) (k : hv_TW l E R cells slots M Ψ Z (pc + 1) lo st σ) : hv_TW l E R cells slots M Ψ Z pc lo (v :: st) σ := by
  intro p e s m args below meth c H locs ls hf hΨ hK hP hS hl
  exact lv_pop hf.1 hf.2.1 hd (by rw [hv_cv_cat]; exact hv) (k p e s m args below meth c H locs ls hf hΨ hK hP hS hl)
theorem T_dup2 {v w : Value} (hd : decode M.2.1 pc = .ok (.dup2, 1)) (hv : v.category = 1) (hw : w.category = 1) (k : hv_TW l E R cells slots M Ψ Z (pc + 1) lo (v :: w :: v :: w :: st) σ) : hv_TW l E R cells slots M Ψ Z pc lo (v :: w :: st) σ := by
  intro p e s m args below meth c H locs ls hf hΨ hK hP hS hl
  exact lv_dup2_11 hf.1 hf.2.1 hd (by rw [hv_cv_cat]; assumption) (by rw [hv_cv_cat]; assumption) (k p e s m args below meth c H locs ls hf hΨ hK hP hS hl)
theorem T_dup2l {v : Value} (hd : decode M.2.1 pc = .ok (.dup2, 1)) (hv : v.category = 2) (k : hv_TW l E R cells slots M Ψ Z (pc + 1) lo (v :: v :: st) σ) : hv_TW l E R cells slots M Ψ Z pc lo (v :: st) σ := by
  intro p e s m args below meth c H locs ls hf hΨ hK hP hS hl
  exact lv_dup2_2 hf.1 hf.2.1 hd (by rw [hv_cv_cat]; exact hv) (k p e s m args below meth c H locs ls hf hΨ hK hP hS hl)
theorem T_if_eq {x : Int32} {off : Int} {tgt : Nat} (hd : decode M.2.1 pc = .ok (.ifCond .eq off, 3)) (ht : (pc : Int) + off = (tgt : Int)) (h1 : x = 0 → hv_TW l E R cells slots M Ψ Z tgt lo st σ) (h2 : ¬ x = 0 → hv_TW l E R cells slots M Ψ Z (pc + 3) lo st σ) : hv_TW l E R cells slots M Ψ Z pc lo (.int x :: st) σ := by
  intro p e s m args below meth c H locs ls hf hΨ hK hP hS hl
  exact lv_if_eq hf.1 hf.2.1 hd ht (fun q => h1 q p e s m args below meth c H locs ls hf hΨ hK hP hS hl) (fun q => h2 q p e s m args below meth c H locs ls hf hΨ hK hP hS hl)
theorem T_if_ne {x : Int32} {off : Int} {tgt : Nat} (hd : decode M.2.1 pc = .ok (.ifCond .ne off, 3)) (ht : (pc : Int) + off = (tgt : Int)) (h1 : x ≠ 0 → hv_TW l E R cells slots M Ψ Z tgt lo st σ) (h2 : x = 0 → hv_TW l E R cells slots M Ψ Z (pc + 3) lo st σ) : hv_TW l E R cells slots M Ψ Z pc lo (.int x :: st) σ := by
  intro p e s m args below meth c H locs ls hf hΨ hK hP hS hl
  exact lv_if_ne hf.1 hf.2.1 hd ht (fun q => h1 q p e s m args below meth c H locs ls hf hΨ hK hP hS hl) (fun q => h2 q p e s m args below meth c H locs ls hf hΨ hK hP hS hl)
theorem T_if_lt {x : Int32} {off : Int} {tgt : Nat} (hd : decode M.2.1 pc = .ok (.ifCond .lt off, 3)) (ht : (pc : Int) + off = (tgt : Int)) (h1 : x < 0 → hv_TW l E R cells slots M Ψ Z tgt lo st σ) (h2 : ¬ x < 0 → hv_TW l E R cells slots M Ψ Z (pc + 3) lo st σ) : hv_TW l E R cells slots M Ψ Z pc lo (.int x :: st) σ := by
  intro p e s m args below meth c H locs ls hf hΨ hK hP hS hl
  exact lv_if_lt hf.1 hf.2.1 hd ht (fun q => h1 q p e s m args below meth c H locs ls hf hΨ hK hP hS hl) (fun q => h2 q p e s m args below meth c H locs ls hf hΨ hK hP hS hl)
theorem T_if_ge {x : Int32} {off : Int} {tgt : Nat} (hd : decode M.2.1 pc = .ok (.ifCond .ge off, 3)) (ht : (pc : Int) + off = (tgt : Int)) (h1 : 0 ≤ x → hv_TW l E R cells slots M Ψ Z tgt lo st σ) (h2 : ¬ 0 ≤ x → hv_TW l E R cells slots M Ψ Z (pc + 3) lo st σ) : hv_TW l E R cells slots M Ψ Z pc lo (.int x :: st) σ := by
  intro p e s m args below meth c H locs ls hf hΨ hK hP hS hl
  exact lv_if_ge hf.1 hf.2.1 hd ht (fun q => h1 q p e s m args below meth c H locs ls hf hΨ hK hP hS hl) (fun q => h2 q p e s m args below meth c H locs ls hf hΨ hK hP hS hl)
theorem T_if_gt {x : Int32} {off : Int} {tgt : Nat} (hd : decode M.2.1 pc = .ok (.ifCond .gt off, 3)) (ht : (pc : Int) + off = (tgt : Int)) (h1 : 0 < x → hv_TW l E R cells slots M Ψ Z tgt lo st σ) (h2 : ¬ 0 < x → hv_TW l E R cells slots M Ψ Z (pc + 3) lo st σ) : hv_TW l E R cells slots M Ψ Z pc lo (.int x :: st) σ := by
  intro p e s m args below meth c H locs ls hf hΨ hK hP hS hl
  exact lv_if_gt hf.1 hf.2.1 hd ht (fun q => h1 q p e s m args below meth c H locs ls hf hΨ hK hP hS hl) (fun q => h2 q p e s m args below meth c H locs ls hf hΨ hK hP hS hl)
theorem T_if_le {x : Int32} {off : Int} {tgt : Nat} (hd : decode M.2.1 pc = .ok (.ifCond .le off, 3)) (ht : (pc : Int) + off = (tgt : Int)) (h1 : x ≤ 0 → hv_TW l E R cells slots M Ψ Z tgt lo st σ) (h2 : ¬ x ≤ 0 → hv_TW l E R cells slots M Ψ Z (pc + 3) lo st σ) : hv_TW l E R cells slots M Ψ Z pc lo (.int x :: st) σ := by
  intro p e s m args below meth c H locs ls hf hΨ hK hP hS hl
  exact lv_if_le hf.1 hf.2.1 hd ht (fun q => h1 q p e s m args below meth c H locs ls hf hΨ hK hP hS hl) (fun q => h2 q p e s m args below meth c H locs ls hf hΨ hK hP hS hl)
theorem T_icmp_eq {x y : Int32} {off : Int} {tgt : Nat} (hd : decode M.2.1 pc = .ok (.if_icmp .eq off, 3)) (ht : (pc : Int) + off = (tgt : Int)) (h1 : x = y → hv_TW l E R cells slots M Ψ Z tgt lo st σ) (h2 : ¬ x = y → hv_TW l E R cells slots M Ψ Z (pc + 3) lo st σ) : hv_TW l E R cells slots M Ψ Z pc lo (.int y :: .int x :: st) σ := by
  intro p e s m args below meth c H locs ls hf hΨ hK hP hS hl
  exact lv_icmp_eq hf.1 hf.2.1 hd ht (fun q => h1 q p e s m args below meth c H locs ls hf hΨ hK hP hS hl) (fun q => h2 q p e s m args below meth c H locs ls hf hΨ hK hP hS hl)
theorem T_icmp_ne {x y : Int32} {off : Int} {tgt : Nat} (hd : decode M.2.1 pc = .ok (.if_icmp .ne off, 3)) (ht : (pc : Int) + off = (tgt : Int)) (h1 : x ≠ y → hv_TW l E R cells slots M Ψ Z tgt lo st σ) (h2 : x = y → hv_TW l E R cells slots M Ψ Z (pc + 3) lo st σ) : hv_TW l E R cells slots M Ψ Z pc lo (.int y :: .int x :: st) σ := by
  intro p e s m args below meth c H locs ls hf hΨ hK hP hS hl
  exact lv_icmp_ne hf.1 hf.2.1 hd ht (fun q => h1 q p e s m args below meth c H locs ls hf hΨ hK hP hS hl) (fun q => h2 q p e s m args below meth c H locs ls hf hΨ hK hP hS hl)
theorem T_icmp_lt {x y : Int32} {off : Int} {tgt : Nat} (hd : decode M.2.1 pc = .ok (.if_icmp .lt off, 3)) (ht : (pc : Int) + off = (tgt : Int)) (h1 : x < y → hv_TW l E R cells slots M Ψ Z tgt lo st σ) (h2 : ¬ x < y → hv_TW l E R cells slots M Ψ Z (pc + 3) lo st σ) : hv_TW l E R cells slots M Ψ Z pc lo (.int y :: .int x :: st) σ := by
  intro p e s m args below meth c H locs ls hf hΨ hK hP hS hl
  exact lv_icmp_lt hf.1 hf.2.1 hd ht (fun q => h1 q p e s m args below meth c H locs ls hf hΨ hK hP hS hl) (fun q => h2 q p e s m args below meth c H locs ls hf hΨ hK hP hS hl)
theorem T_icmp_ge {x y : Int32} {off : Int} {tgt : Nat} (hd : decode M.2.1 pc = .ok (.if_icmp .ge off, 3)) (ht : (pc : Int) + off = (tgt : Int)) (h1 : y ≤ x → hv_TW l E R cells slots M Ψ Z tgt lo st σ) (h2 : ¬ y ≤ x → hv_TW l E R cells slots M Ψ Z (pc + 3) lo st σ) : hv_TW l E R cells slots M Ψ Z pc lo (.int y :: .int x :: st) σ := by
  intro p e s m args below meth c H locs ls hf hΨ hK hP hS hl
  exact lv_icmp_ge hf.1 hf.2.1 hd ht (fun q => h1 q p e s m args below meth c H locs ls hf hΨ hK hP hS hl) (fun q => h2 q p e s m args below meth c H locs ls hf hΨ hK hP hS hl)
theorem T_icmp_gt {x y : Int32} {off : Int} {tgt : Nat} (hd : decode M.2.1 pc = .ok (.if_icmp .gt off, 3)) (ht : (pc : Int) + off = (tgt : Int)) (h1 : y < x → hv_TW l E R cells slots M Ψ Z tgt lo st σ) (h2 : ¬ y < x → hv_TW l E R cells slots M Ψ Z (pc + 3) lo st σ) : hv_TW l E R cells slots M Ψ Z pc lo (.int y :: .int x :: st) σ := by
  intro p e s m args below meth c H locs ls hf hΨ hK hP hS hl
  exact lv_icmp_gt hf.1 hf.2.1 hd ht (fun q => h1 q p e s m args below meth c H locs ls hf hΨ hK hP hS hl) (fun q => h2 q p e s m args below meth c H locs ls hf hΨ hK hP hS hl)
theorem T_icmp_le {x y : Int32} {off : Int} {tgt : Nat} (hd : decode M.2.1 pc = .ok (.if_icmp .le off, 3)) (ht : (pc : Int) + off = (tgt : Int)) (h1 : x ≤ y → hv_TW l E R cells slots M Ψ Z tgt lo st σ) (h2 : ¬ x ≤ y → hv_TW l E R cells slots M Ψ Z (pc + 3) lo st σ) : hv_TW l E R cells slots M Ψ Z pc lo (.int y :: .int x :: st) σ := by
  intro p e s m args below meth c H locs ls hf hΨ hK hP hS hl
  exact lv_icmp_le hf.1 hf.2.1 hd ht (fun q => h1 q p e s m args below meth c H locs ls hf hΨ hK hP hS hl) (fun q => h2 q p e s m args below meth c H locs ls hf hΨ hK hP hS hl)
theorem T_goto {off : Int} {tgt : Nat} (hd : decode M.2.1 pc = .ok (.goto off, 3)) (ht : (pc : Int) + off = (tgt : Int)) (k : hv_TW l E R cells slots M Ψ Z tgt lo st σ) : hv_TW l E R cells slots M Ψ Z pc lo st σ := by
  intro p e s m args below meth c H locs ls hf hΨ hK hP hS hl
  exact lv_goto hf.1 hf.2.1 hd ht (k p e s m args below meth c H locs ls hf hΨ hK hP hS hl)
theorem T_lookup {dflt : Int} {ps : Array (Int × Int)} {len : Nat} {x : Int32} {off : Int} {tgt : Nat} (hd : decode M.2.1 pc = .ok (.lookupswitch dflt ps, len)) (hp : (ps.toList.zip (ps.toList.drop 1)).all (fun (a, next) => a.1 < next.1) = true) (ho : Op.lookupswitch.offset ps.toList dflt x.toInt = off) (ht : (pc : Int) + off = (tgt : Int)) (k : hv_TW l E R cells slots M Ψ Z tgt lo st σ) : hv_TW l E R cells slots M Ψ Z pc lo (.int x :: st) σ := by
  intro p e s m args below meth c H locs ls hf hΨ hK hP hS hl
  exact lv_lookup hf.1 hf.2.1 hd hp ho ht (k p e s m args below meth c H locs ls hf hΨ hK hP hS hl)
theorem T_tableOut {dflt lw hw : Int} {offs : Array Int} {len : Nat} {x : Int32} {tgt : Nat} (hd : decode M.2.1 pc = .ok (.tableswitch dflt lw hw offs, len)) (h : x.toInt < lw ∨ hw < x.toInt) (ht : (pc : Int) + dflt = (tgt : Int)) (k : hv_TW l E R cells slots M Ψ Z tgt lo st σ) : hv_TW l E R cells slots M Ψ Z pc lo (.int x :: st) σ := by
  intro p e s m args below meth c H locs ls hf hΨ hK hP hS hl
  exact lv_tableOut hf.1 hf.2.1 hd h ht (k p e s m args below meth c H locs ls hf hΨ hK hP hS hl)
theorem T_tableIn {dflt lw hw : Int} {offs : Array Int} {len : Nat} {x : Int32} {off : Int} {tgt : Nat} (hd : decode M.2.1 pc = .ok (.tableswitch dflt lw hw offs, len)) (h1 : ¬ x.toInt < lw) (h2 : ¬ hw < x.toInt) (ho : offs[(x.toInt - lw).toNat]? = some off) (ht : (pc : Int) + off = (tgt : Int)) (k : hv_TW l E R cells slots M Ψ Z tgt lo st σ) : hv_TW l E R cells slots M Ψ Z pc lo (.int x :: st) σ := by
  intro p e s m args below meth c H locs ls hf hΨ hK hP hS hl
  exact lv_tableIn hf.1 hf.2.1 hd h1 h2 ho ht (k p e s m args below meth c H locs ls hf hΨ hK hP hS hl)
end T
end
section
-- rows that read and write the world, and calls
def hv_rm (d : Nat) : Room := { frames := d, cells := 0, slots := 0, locals := 40 * d }
abbrev hv_no : State → Array Value → Prop := fun _ _ => True
def hv_B (E : hv_E) (u : hv_S) (t : State) : Prop := hv_P E u t.heap
def hv_Pc (E : hv_E) (As : List Value) (σ : hv_S) : Array Value → State → Prop := va_Pc (As.map (hv_cv (hv_al E))) (fun U => hv_P E σ U.heap ∧ hv_K E U U.heap)
/-- A CALL: of method M, on As, in σ: it answers with Φ. d: how deep -/
def hv_CI (l : Launch) (E : hv_E) (d : Nat) (M : hv_M) (As : List Value) (σ : hv_S) (Φ : Int32 → hv_S → Prop) : Prop := Met l M.1 (hv_w M) (hv_rm d) (hv_Pc E As σ) (va_Qi Φ (hv_B E) (hv_A E)) 0 0 (hv_A E)
def hv_CL (l : Launch) (E : hv_E) (d : Nat) (M : hv_M) (As : List Value) (σ : hv_S) (Φ : Int64 → hv_S → Prop) : Prop := Met l M.1 (hv_w M) (hv_rm d) (hv_Pc E As σ) (va_Ql Φ (hv_B E) (hv_A E)) 0 0 (hv_A E)
def hv_CV (l : Launch) (E : hv_E) (d : Nat) (M : hv_M) (As : List Value) (σ : hv_S) (Φ : hv_S → Prop) : Prop := Met l M.1 (hv_w M) (hv_rm d) (hv_Pc E As σ) (va_Qv Φ (hv_B E) (hv_A E)) 0 0 (hv_A E)
def hv_CR (l : Launch) (E : hv_E) (d : Nat) (M : hv_M) (As : List Value) (σ : hv_S) (Φ : Nat → hv_S → Prop) : Prop := Met l M.1 (hv_w M) (hv_rm d) (hv_Pc E As σ) (va_Qr (fun u : Nat × hv_S => Φ u.1 u.2) (fun u a t => a = hv_al E u.1 ∧ hv_B E u.2 t) (hv_A E)) 0 0 (hv_A E)
def hv_ZI (E : hv_E) (Φ : Int32 → hv_S → Prop) : hv_Zt := fun below args s => MQ below (va_Qi Φ (hv_B E) (hv_A E)) args s 0 0 (hv_A E)
def hv_ZL (E : hv_E) (Φ : Int64 → hv_S → Prop) : hv_Zt := fun below args s => MQ below (va_Ql Φ (hv_B E) (hv_A E)) args s 0 0 (hv_A E)
def hv_ZV (E : hv_E) (Φ : hv_S → Prop) : hv_Zt := fun below args s => MQ below (va_Qv Φ (hv_B E) (hv_A E)) args s 0 0 (hv_A E)
def hv_ZR (E : hv_E) (Φ : Nat → hv_S → Prop) : hv_Zt := fun below args s => MQ below (va_Qr (fun u : Nat × hv_S => Φ u.1 u.2) (fun u a t => a = hv_al E u.1 ∧ hv_B E u.2 t) (hv_A E)) args s 0 0 (hv_A E)
theorem hv_args (al : Nat → Nat) : ∀ (vs : List Value) (i : Nat), lv_args i (vs.map (hv_cv al)) = (lv_args i vs).map (fun q => (q.1, hv_cv al q.2)) := by
  intro vs
  induction vs with
  | nil => intro i; rfl
  | cons v vs ih =>
    intro i
    show (i, hv_cv al v) :: lv_args (if (hv_cv al v).category = 2 then i + 2 else i + 1) (vs.map (hv_cv al)) = _
    rw [hv_cv_cat, ih]
    rfl
theorem hv_sl_len (al : Nat → Nat) : ∀ (vs : List Value), (lg_sl (vs.map (hv_cv al))).length = (lg_sl vs).length := by
  intro vs
  induction vs with
  | nil => rfl
  | cons v vs ih =>
    have e : ∀ (w : Value) (ws : List Value), lg_sl (w :: ws) = (if w.category = 2 then [.val w, .second] else [.val w]) ++ lg_sl ws := fun w ws => by simp [lg_sl]
    rw [List.map_cons, e, e, List.length_append, List.length_append, ih, hv_cv_cat]
    by_cases h : v.category = 2
    · rw [if_pos h, if_pos h]; rfl
    · rw [if_neg h, if_neg h]; rfl
section EN
variable {l : Launch} {E : hv_E} {d : Nat} {M : hv_M} {As : List Value} {σ : hv_S}
theorem hv_entry {Qc : Array Value → State → Outcome → State → Prop} (hy : plainName M.1.cls = true) (hn : (lg_sl As).length ≤ M.2.2.1)
    (h : hv_TW l E (hv_rm d) 0 0 M hv_no (fun below args s => MQ below Qc args s 0 0 (hv_A E)) 0 (lv_args 0 As) [] σ) : Met l M.1 (hv_w M) (hv_rm d) (hv_Pc E As σ) Qc 0 0 (hv_A E) := by
  refine Met.ofW (cc := M.2.1) (maxL := M.2.2.1) (ret := M.2.2.2) hy rfl ?_
  intro p e s m args below meth c s₁ B hml hv
  obtain ⟨rfl, hP, hK⟩ := hv
  rw [lg_entry_eq]
  have hl := lv_entry (As.map (hv_cv (hv_al E))) (n := M.2.2.1) (by rw [hv_sl_len]; exact hn)
  rw [hv_args] at hl
  exact h p e s m _ below meth c s.heap [] _ ⟨B.exec, B.bytes, hml, findClass_of_methodNamed B.named, atoms_spec (ws := hv_w M) B.pre, B.returns, B.notSynchronized⟩ trivial hK hP va_S.rf hl
theorem hv_entI {Φ : Int32 → hv_S → Prop} (hy : plainName M.1.cls = true) (hn : (lg_sl As).length ≤ M.2.2.1) (h : hv_TW l E (hv_rm d) 0 0 M hv_no (hv_ZI E Φ) 0 (lv_args 0 As) [] σ) : hv_CI l E d M As σ Φ := hv_entry hy hn h
theorem hv_entL {Φ : Int64 → hv_S → Prop} (hy : plainName M.1.cls = true) (hn : (lg_sl As).length ≤ M.2.2.1) (h : hv_TW l E (hv_rm d) 0 0 M hv_no (hv_ZL E Φ) 0 (lv_args 0 As) [] σ) : hv_CL l E d M As σ Φ := hv_entry hy hn h
theorem hv_entV {Φ : hv_S → Prop} (hy : plainName M.1.cls = true) (hn : (lg_sl As).length ≤ M.2.2.1) (h : hv_TW l E (hv_rm d) 0 0 M hv_no (hv_ZV E Φ) 0 (lv_args 0 As) [] σ) : hv_CV l E d M As σ Φ := hv_entry hy hn h
theorem hv_entR {Φ : Nat → hv_S → Prop} (hy : plainName M.1.cls = true) (hn : (lg_sl As).length ≤ M.2.2.1) (h : hv_TW l E (hv_rm d) 0 0 M hv_no (hv_ZR E Φ) 0 (lv_args 0 As) [] σ) : hv_CR l E d M As σ Φ := hv_entry hy hn h
end EN
section U
variable {l : Launch} {E : hv_E} {R : Room} {cells slots : Nat} {M : hv_M} {Ψ : State → Array Value → Prop} {Z : hv_Zt} {pc : Nat} {lo : List (Nat × Value)} {st : List Value} {σ : hv_S}
-- ends
theorem T_iret {Φ : Int32 → hv_S → Prop} {v : Int32} (hd : decode M.2.1 pc = .ok (.ireturn, 1)) (hr : M.2.2.2 = some .int) (h : Φ v σ) : hv_TW l E R 0 0 M Ψ (hv_ZI E Φ) pc lo [.int v] σ := by
  intro p e s m args below meth c H locs ls hf hΨ hK hP hS hl
  exact W.iret hf.1 hf.2.1 (hf.2.2.2.2.2.1.trans hr) (fun t ht hW => ⟨⟨v, σ, rfl, h, by unfold hv_B; rw [ht]; exact hP⟩, hS.F ht⟩) hS.2.2 hd hf.2.2.2.2.2.2
theorem T_zret {Φ : Int32 → hv_S → Prop} {v : Int32} (hd : decode M.2.1 pc = .ok (.ireturn, 1)) (hr : M.2.2.2 = some .boolean) (hz : v = 0 ∨ v = 1) (h : Φ v σ) : hv_TW l E R 0 0 M Ψ (hv_ZI E Φ) pc lo [.int v] σ := by
  intro p e s m args below meth c H locs ls hf hΨ hK hP hS hl
  exact W.zret hf.1 hf.2.1 (hf.2.2.2.2.2.1.trans hr) (by rcases hz with rfl | rfl <;> rfl) (fun t ht hW => ⟨⟨v, σ, rfl, h, by unfold hv_B; rw [ht]; exact hP⟩, hS.F ht⟩) hS.2.2 hd hf.2.2.2.2.2.2
theorem T_xret {Φ : Int32 → hv_S → Prop} {v : Int32} {ty : FieldType} (hd : decode M.2.1 pc = .ok (.ireturn, 1)) (hr : M.2.2.2 = some ty) (hn : narrow ty (.int v) = .int v) (h : Φ v σ) : hv_TW l E R 0 0 M Ψ (hv_ZI E Φ) pc lo [.int v] σ := by
  intro p e s m args below meth c H locs ls hf hΨ hK hP hS hl
  exact W.zret hf.1 hf.2.1 (hf.2.2.2.2.2.1.trans hr) hn (fun t ht hW => ⟨⟨v, σ, rfl, h, by unfold hv_B; rw [ht]; exact hP⟩, hS.F ht⟩) hS.2.2 hd hf.2.2.2.2.2.2
theorem T_lret {Φ : Int64 → hv_S → Prop} {v : Int64} (hd : decode M.2.1 pc = .ok (.lreturn, 1)) (hr : M.2.2.2 = some .long) (h : Φ v σ) : hv_TW l E R 0 0 M Ψ (hv_ZL E Φ) pc lo [.long v] σ := by
  intro p e s m args below meth c H locs ls hf hΨ hK hP hS hl
  exact W.lret hf.1 hf.2.1 (hf.2.2.2.2.2.1.trans hr) (fun t ht hW => ⟨⟨v, σ, rfl, h, by unfold hv_B; rw [ht]; exact hP⟩, hS.F ht⟩) hS.2.2 hd hf.2.2.2.2.2.2
theorem T_vret {Φ : hv_S → Prop} (hd : decode M.2.1 pc = .ok (.return_, 1)) (hr : M.2.2.2 = none) (h : Φ σ) : hv_TW l E R 0 0 M Ψ (hv_ZV E Φ) pc lo [] σ := by
  intro p e s m args below meth c H locs ls hf hΨ hK hP hS hl
  exact W.vret hf.1 hf.2.1 (hf.2.2.2.2.2.1.trans hr) (fun t ht hW => ⟨⟨σ, rfl, h, by unfold hv_B; rw [ht]; exact hP⟩, hS.F ht⟩) hS.2.2 hd hf.2.2.2.2.2.2
theorem T_aret {Φ : Nat → hv_S → Prop} {v : Nat} {ty : FieldType} (hd : decode M.2.1 pc = .ok (.areturn, 1)) (hr : M.2.2.2 = some ty) (hty : (∃ n, ty = .object n) ∨ ∃ t, ty = .array t) (h : Φ v σ) : hv_TW l E R 0 0 M Ψ (hv_ZR E Φ) pc lo [.ref v] σ := by
  intro p e s m args below meth c H locs ls hf hΨ hK hP hS hl
  exact W.aret hf.1 hf.2.1 (hf.2.2.2.2.2.1.trans hr) hty (Or.inr ⟨_, rfl⟩) (fun t ht hW => ⟨⟨(v, σ), hv_al E v, rfl, h, rfl, by unfold hv_B; rw [ht]; exact hP⟩, hS.F ht⟩) hS.2.2 hd hf.2.2.2.2.2.2
-- arrays
theorem hv_atR {k : Nat} {a : Nat × Nat} (h : hv_sh E k = .inr a) : hv_at E σ k = (hv_al E k, hv_cell (hv_al E) (hv_T E) σ k (.inr a)) := by unfold hv_at; rw [h]
theorem hv_atL {k : Nat} {o : Nat × List (Nat × Nat)} (h : hv_sh E k = .inl o) : hv_at E σ k = (hv_al E k, .inr (o.1, (hv_fs σ k 0 o.2).map (hv_cv (hv_al E)))) := by unfold hv_at; rw [h]; rfl
theorem T_iald {a n : Nat} {i : Int32} (hd : decode M.2.1 pc = .ok (.iaload, 1)) (ha : a ∈ hv_pl E) (hs : hv_sh E a = .inr (0, n)) (hin : vp_in i n) (k : hv_TW l E R cells slots M Ψ Z (pc + 1) lo (.int (σ.1 a i.toNatClampNeg) :: st) σ) : hv_TW l E R cells slots M Ψ Z pc lo (.int i :: .ref a :: st) σ := by
  intro p e s m args below meth c H locs ls hf hΨ hK hP hS hl
  obtain ⟨q0, hq⟩ := hv_P.place (σ := σ) ha
  rw [hv_atR hs] at hq
  exact va_iald hf.1 hf.2.1 hK.1 hP.1 q0 0 hq rfl hin hd (k p e s m args below meth c H locs ls hf hΨ hK hP hS hl)
theorem T_zald {a n : Nat} {i : Int32} (hd : decode M.2.1 pc = .ok (.baload, 1)) (ha : a ∈ hv_pl E) (hs : hv_sh E a = .inr (2, n)) (hin : vp_in i n) (k : hv_TW l E R cells slots M Ψ Z (pc + 1) lo (.int (σ.1 a i.toNatClampNeg) :: st) σ) : hv_TW l E R cells slots M Ψ Z pc lo (.int i :: .ref a :: st) σ := by
  intro p e s m args below meth c H locs ls hf hΨ hK hP hS hl
  obtain ⟨q0, hq⟩ := hv_P.place (σ := σ) ha
  rw [hv_atR hs] at hq
  exact va_zald hf.1 hf.2.1 hK.1 hP.1 q0 2 hq rfl hin hd (k p e s m args below meth c H locs ls hf hΨ hK hP hS hl)
theorem T_lald {a n : Nat} {i : Int32} (hd : decode M.2.1 pc = .ok (.laload, 1)) (ha : a ∈ hv_pl E) (hs : hv_sh E a = .inr (1, n)) (hin : vp_in i n) (k : hv_TW l E R cells slots M Ψ Z (pc + 1) lo (.long (σ.2.1 a i.toNatClampNeg) :: st) σ) : hv_TW l E R cells slots M Ψ Z pc lo (.int i :: .ref a :: st) σ := by
  intro p e s m args below meth c H locs ls hf hΨ hK hP hS hl
  obtain ⟨q0, hq⟩ := hv_P.place (σ := σ) ha
  rw [hv_atR hs] at hq
  exact va_lald hf.1 hf.2.1 hK.1 hP.1 q0 1 hq rfl hin hd (k p e s m args below meth c H locs ls hf hΨ hK hP hS hl)
theorem T_aald {a n b : Nat} {i : Int32} (hd : decode M.2.1 pc = .ok (.aaload, 1)) (ha : a ∈ hv_pl E) (hs : hv_sh E a = .inr (b + 3, n)) (hin : vp_in i n) (k : hv_TW l E R cells slots M Ψ Z (pc + 1) lo (.ref (b + i.toNatClampNeg) :: st) σ) : hv_TW l E R cells slots M Ψ Z pc lo (.int i :: .ref a :: st) σ := by
  intro p e s m args below meth c H locs ls hf hΨ hK hP hS hl
  obtain ⟨q0, hq⟩ := hv_P.place (σ := σ) ha
  rw [hv_atR hs] at hq
  have hlt : i.toNatClampNeg < n := Nat.not_le.mp fun q => hin (Or.inr q)
  have k2 := k p e s m args below meth c H locs ls hf hΨ hK hP hS hl
  refine W.aald (v := .ref (hv_al E (b + i.toNatClampNeg))) (ty := .array .long) hf.1 hf.2.1 (hP.1 q0 _ hq) ((hK.1.2 3 (hv_T E 3, .array .long) rfl).1 n (fun j => va_rf (if j < n then some (hv_al E (b + j)) else none))) rfl (fun q => by cases q) (by show ¬ (i < 0 ∨ (arrV _ _ _).slots.size ≤ _); rw [arrV_size]; exact hin) (by show (arrV _ _ _).slots[_]? = _; rw [arrV_read _ _ hlt]; show some (va_rf (if i.toNatClampNeg < n then some (hv_al E (b + i.toNatClampNeg)) else none)) = _; rw [if_pos hlt]; rfl) rfl rfl hd k2
theorem T_iast {a n : Nat} {i x : Int32} (hd : decode M.2.1 pc = .ok (.iastore, 1)) (ha : a ∈ hv_pl E) (hs : hv_sh E a = .inr (0, n)) (hin : vp_in i n) (k : hv_TW l E R cells slots M Ψ Z (pc + 1) lo st (hv_ui σ a i.toNatClampNeg x)) : hv_TW l E R cells slots M Ψ Z pc lo (.int x :: .int i :: .ref a :: st) σ := by
  intro p e s m args below meth c H locs ls hf hΨ hK hP hS hl
  obtain ⟨q0, hq0⟩ := List.getElem?_of_mem ha
  have hq : (hv_ws E σ)[q0]? = some (hv_at E σ a) := by unfold hv_ws; rw [List.getElem?_map, hq0]; rfl
  have he := hv_ws_set (σ' := hv_ui σ a i.toNatClampNeg x) hP hq0 (fun j _ h => hv_ui_at h)
  rw [hv_atR hs] at hq he
  have hc : hv_cell (hv_al E) (hv_T E) (hv_ui σ a i.toNatClampNeg x) a (.inr (0, n)) = .inl (hv_T E 0, n, .inl (upd (σ.1 a) i.toNatClampNeg x)) := by
    show Sum.inl (hv_T E 0, n, Sum.inl ((hv_ui σ a i.toNatClampNeg x).1 a)) = _
    congr 4
    funext j
    simp [hv_ui, upd]
  rw [hc] at he
  refine va_iast hf.1 hf.2.1 hK.1 hP.1 hP.2 hS q0 0 hq rfl hin hd (fun H1 locs1 h1 h2 h3 => ?_)
  rw [he] at h1 h2
  exact k p e s m args below meth c H1 locs1 ls hf hΨ hK ⟨h1, h2⟩ h3 hl
theorem T_zast {a n : Nat} {i x : Int32} (hd : decode M.2.1 pc = .ok (.bastore, 1)) (ha : a ∈ hv_pl E) (hs : hv_sh E a = .inr (2, n)) (hin : vp_in i n) (hx : x = 0 ∨ x = 1) (k : hv_TW l E R cells slots M Ψ Z (pc + 1) lo st (hv_ui σ a i.toNatClampNeg x)) : hv_TW l E R cells slots M Ψ Z pc lo (.int x :: .int i :: .ref a :: st) σ := by
  intro p e s m args below meth c H locs ls hf hΨ hK hP hS hl
  obtain ⟨q0, hq0⟩ := List.getElem?_of_mem ha
  have hq : (hv_ws E σ)[q0]? = some (hv_at E σ a) := by unfold hv_ws; rw [List.getElem?_map, hq0]; rfl
  have he := hv_ws_set (σ' := hv_ui σ a i.toNatClampNeg x) hP hq0 (fun j _ h => hv_ui_at h)
  rw [hv_atR hs] at hq he
  have hc : hv_cell (hv_al E) (hv_T E) (hv_ui σ a i.toNatClampNeg x) a (.inr (2, n)) = .inl (hv_T E 2, n, .inl (upd (σ.1 a) i.toNatClampNeg x)) := by
    show Sum.inl (hv_T E 2, n, Sum.inl ((hv_ui σ a i.toNatClampNeg x).1 a)) = _
    congr 4
    funext j
    simp [hv_ui, upd]
  rw [hc] at he
  refine va_zast hf.1 hf.2.1 hK.1 hP.1 hP.2 hS q0 2 hq rfl hin hd (fun H1 locs1 h1 h2 h3 => ?_)
  have hx2 : vp_nar .boolean x = x := by rcases hx with rfl | rfl <;> rfl
  rw [hx2, he] at h1 h2
  exact k p e s m args below meth c H1 locs1 ls hf hΨ hK ⟨h1, h2⟩ h3 hl
theorem T_last {a n : Nat} {i : Int32} {x : Int64} (hd : decode M.2.1 pc = .ok (.lastore, 1)) (ha : a ∈ hv_pl E) (hs : hv_sh E a = .inr (1, n)) (hin : vp_in i n) (k : hv_TW l E R cells slots M Ψ Z (pc + 1) lo st (hv_ul σ a i.toNatClampNeg x)) : hv_TW l E R cells slots M Ψ Z pc lo (.long x :: .int i :: .ref a :: st) σ := by
  intro p e s m args below meth c H locs ls hf hΨ hK hP hS hl
  obtain ⟨q0, hq0⟩ := List.getElem?_of_mem ha
  have hq : (hv_ws E σ)[q0]? = some (hv_at E σ a) := by unfold hv_ws; rw [List.getElem?_map, hq0]; rfl
  have he := hv_ws_set (σ' := hv_ul σ a i.toNatClampNeg x) hP hq0 (fun j _ h => hv_ul_at h)
  rw [hv_atR hs] at hq he
  have hc : hv_cell (hv_al E) (hv_T E) (hv_ul σ a i.toNatClampNeg x) a (.inr (1, n)) = .inl (hv_T E 1, n, .inr (.inl (vp_updL (σ.2.1 a) i.toNatClampNeg x))) := by
    show Sum.inl (hv_T E 1, n, Sum.inr (Sum.inl ((hv_ul σ a i.toNatClampNeg x).2.1 a))) = _
    congr 5
    funext j
    simp [hv_ul, vp_updL]
  rw [hc] at he
  refine va_last hf.1 hf.2.1 hK.1 hP.1 hP.2 hS q0 1 hq rfl hin hd (fun H1 locs1 h1 h2 h3 => ?_)
  rw [he] at h1 h2
  exact k p e s m args below meth c H1 locs1 ls hf hΨ hK ⟨h1, h2⟩ h3 hl
theorem T_alen {a n t : Nat} {v : Int32} (hd : decode M.2.1 pc = .ok (.arraylength, 1)) (ha : a ∈ hv_pl E) (hs : hv_sh E a = .inr (t, n)) (ht : t < 3) (hv : Int32.ofNat n = v) (k : hv_TW l E R cells slots M Ψ Z (pc + 1) lo (.int v :: st) σ) : hv_TW l E R cells slots M Ψ Z pc lo (.ref a :: st) σ := by
  intro p e s m args below meth c H locs ls hf hΨ hK hP hS hl
  obtain ⟨q0, hq⟩ := hv_P.place (σ := σ) ha
  rw [hv_atR hs] at hq
  subst hv
  rcases (show t = 0 ∨ t = 1 ∨ t = 2 by omega) with rfl | rfl | rfl
  · exact va_alen hf.1 hf.2.1 hK.1 hP.1 q0 0 hq rfl rfl hd (k p e s m args below meth c H locs ls hf hΨ hK hP hS hl)
  · exact va_alen hf.1 hf.2.1 hK.1 hP.1 q0 1 hq rfl rfl hd (k p e s m args below meth c H locs ls hf hΨ hK hP hS hl)
  · exact va_alen hf.1 hf.2.1 hK.1 hP.1 q0 2 hq rfl rfl hd (k p e s m args below meth c H locs ls hf hΨ hK hP hS hl)
end U
end
section
-- fields, by a link of the own class's pool: class ci, field j
def hv_FL (own : String) (idx ci j : Nat) : Prop := ∃ (C : String) (T : u_T) (N : Nat) (ty : Nat → FieldType), vwCl[ci]? = some (C, T, N) ∧ j < N ∧ (∀ w ∈ u_ws C T N, w ∈ hv_all) ∧ (T j).1 = C ∧
  (∀ k, k < N → parseFieldDescriptor (T k).2.2.1 = some (ty k)) ∧ (∀ a, a < N → ∀ b, b < N → a ≠ b → (T a).2.1 ≠ (T b).2.1) ∧
  (Cond.fieldLink own idx C (T j).2.1 (T j).2.2.1 ∈ hv_all ∨ ∃ host, Cond.fieldLinkNest own idx C (T j).2.1 (T j).2.2.1 host ∈ hv_nst)
def hv_PF (ci j : Nat) (ty : FieldType) : Prop := ∃ (C : String) (T : u_T) (N : Nat), vwCl[ci]? = some (C, T, N) ∧ (T j).2.2.2 = false ∧ parseFieldDescriptor (T j).2.2.1 = some ty
/-- a method, and how many it takes beside this -/
def hv_MW (M : hv_M) (n : Nat) : Prop := Cond.code M.1 M.2.1 M.2.2.1 M.2.2.2 ∈ hv_all ∧ (M.1.cls ≠ "java/lang/invoke/MethodHandle" ∧ M.1.cls ≠ "java/lang/invoke/VarHandle" ∧ (parseMethodDescriptor M.1.desc).map (fun d => d.parameters.length) = some n) ∧ Cond.initialized M.1.cls ∈ hv_all
def hv_MV (own : String) (idx ci : Nat) (M : hv_M) (n : Nat) : Prop := hv_MW M n ∧ Cond.instanceMethod M.1 ∈ hv_all ∧ Cond.selects M.1.cls M.1 M.1 ∈ hv_all ∧ (∃ (T : u_T) (N : Nat), vwCl[ci]? = some (M.1.cls, T, N)) ∧
  (Cond.methodLink own idx M.1 ∈ hv_all ∨ ∃ host, Cond.methodLinkNest own idx M.1 host ∈ hv_nst)
def hv_MS (own : String) (idx : Nat) (M : hv_M) (n : Nat) : Prop := hv_MW M n ∧ Cond.static M.1 ∈ hv_all ∧ (Cond.methodLink own idx M.1 ∈ hv_all ∨ ∃ host, Cond.methodLinkNest own idx M.1 host ∈ hv_nst)
theorem hv_good (w : Cond) (h : w ∈ hv_all) : (w.onTables && w.keeps) = true ∨ ∃ ty, w = .arrayClass ty := good_of_word (List.mem_filter.mp h).2
theorem hv_goodIn {M M' : hv_M} (h : Cond.code M'.1 M'.2.1 M'.2.2.1 M'.2.2.2 ∈ hv_all) : GoodIn (hv_w M) (hv_w M') := by
  intro w hw
  rcases List.mem_cons.mp hw with rfl | hw
  · exact ⟨List.mem_cons_of_mem _ h, hv_good _ h⟩
  · exact ⟨List.mem_cons_of_mem _ hw, hv_good _ hw⟩
theorem hv_Pc_blind {E : hv_E} {As : List Value} {σ : hv_S} : FrameBlind (hv_Pc E As σ) := fun a U g mk q => ⟨q.1, q.2.1, hv_K.same (s := U) (U := U.calling g mk a) q.2.2 rfl⟩
section V
variable {l : Launch} {E : hv_E} {R : Room} {cells slots : Nat} {M : hv_M} {Ψ : State → Array Value → Prop} {Z : hv_Zt} {pc : Nat} {lo : List (Nat × Value)} {st : List Value} {σ : hv_S}
theorem T_get {a idx ci j : Nat} {fts : List (Nat × Nat)} {v : Value} (hd : decode M.2.1 pc = .ok (.getfield idx, 3)) (fl : hv_FL M.1.cls idx ci j) (ha : a ∈ hv_pl E) (hs : hv_sh E a = .inl (ci, fts)) {ft : Nat × Nat} (hft : fts[j]? = some ft) (hv : hv_fv σ a j ft = v)
    (k : hv_TW l E R cells slots M Ψ Z (pc + 3) lo (v :: st) σ) : hv_TW l E R cells slots M Ψ Z pc lo (.ref a :: st) σ := by
  intro p e s m args below meth c H locs ls hf hΨ hK hP hS hl
  obtain ⟨q0, hq⟩ := hv_P.place (σ := σ) ha
  rw [hv_atL hs] at hq
  obtain ⟨C, T, N, ty, h1, h2, h3, h4, h5, h6, h7⟩ := fl
  subst hv
  have hfs : ((hv_fs σ a 0 fts).map (hv_cv (hv_al E)))[j]? = some (hv_cv (hv_al E) (hv_fv σ a j ft)) := by
    rw [List.getElem?_map, hv_fs_get fts 0 j ft hft, Nat.zero_add]; rfl
  have kk := k p e s m args below meth c H locs ls hf hΨ hK hP hS hl
  rcases h7 with h7 | ⟨host, h7⟩
  · exact va_get (C := C) (T := T) (N := N) hf.1 hf.2.1 hf.2.2.2.2.1 (fun w hw => List.mem_cons_of_mem _ (h3 w hw)) hf.2.2.2.1 hK.1 hP.1 q0 hq h1 j h2 (hf.2.2.2.2.1 _ (List.mem_cons_of_mem _ h7)) (fun x hx => by rw [h4] at hx; exact hx) hfs hd kk
  · exact va_getN (C := C) (T := T) (N := N) (host := host) hf.1 hf.2.1 hf.2.2.2.2.1 (fun w hw => List.mem_cons_of_mem _ (h3 w hw)) hf.2.2.2.1 hK.1 hP.1 q0 hq h1 j h2 (va_Nw.use rfl (hK.2.1 _ h7)) (fun x hx => by rw [h4] at hx; exact hx) hfs hd kk
/-- a field written: v for v', the world σ' -/
theorem T_put {a idx ci j : Nat} {fts : List (Nat × Nat)} {v : Value} {σ' : hv_S} {ty : FieldType} (hd : decode M.2.1 pc = .ok (.putfield idx, 3)) (fl : hv_FL M.1.cls idx ci j) (pf : hv_PF ci j ty) (ha : a ∈ hv_pl E) (hs : hv_sh E a = .inl (ci, fts)) {ft : Nat × Nat} (hft : fts[j]? = some ft)
    (hn : narrow ty (hv_cv (hv_al E) v) = hv_cv (hv_al E) v) (hfit : fits ty (hv_cv (hv_al E) v) = true) (hv : hv_fv σ' a j ft = v) (ho : ∀ i ft, i ≠ j → hv_fv σ' a i ft = hv_fv σ a i ft) (hoo : ∀ k', k' ≠ a → hv_at E σ' k' = hv_at E σ k')
    (k : hv_TW l E R cells slots M Ψ Z (pc + 3) lo st σ') : hv_TW l E R cells slots M Ψ Z pc lo (v :: .ref a :: st) σ := by
  intro p e s m args below meth c H locs ls hf hΨ hK hP hS hl
  obtain ⟨q0, hq0⟩ := List.getElem?_of_mem ha
  have hq : (hv_ws E σ)[q0]? = some (hv_at E σ a) := by unfold hv_ws; rw [List.getElem?_map, hq0]; rfl
  have he := hv_ws_set (σ' := σ') hP hq0 (fun j' _ h => hoo j' h)
  rw [hv_atL hs] at hq he
  obtain ⟨C, T, N, tys, h1, h2, h3, h4, h5, h6, h7⟩ := fl
  obtain ⟨C', T', N', g1, g2, g3⟩ := pf
  have e1 : (C', T', N') = (C, T, N) := Option.some.inj (g1.symm.trans h1)
  cases e1
  have hj : j < fts.length := (List.getElem?_eq_some_iff.mp hft).1
  have hset : ((hv_fs σ a 0 fts).map (hv_cv (hv_al E))).set j (hv_cv (hv_al E) v) = (hv_fs σ' a 0 fts).map (hv_cv (hv_al E)) := by
    rw [← List.map_set, hv_fs_ext (σ' := σ') (fun ft' h' => by rw [hft] at h'; cases h'; exact hv) ho]
  have kk : ∀ (H1 : Heap) (locs1 : List Loc), va_P (hv_D E) vwCl ((hv_ws E σ).set q0 (hv_al E a, .inr (ci, ((hv_fs σ a 0 fts).map (hv_cv (hv_al E))).set j (hv_cv (hv_al E) v)))) H1 → va_D (hv_A E) ((hv_ws E σ).set q0 (hv_al E a, .inr (ci, ((hv_fs σ a 0 fts).map (hv_cv (hv_al E))).set j (hv_cv (hv_al E) v)))) → va_S (hv_A E) s.heap H1 locs1 → W p l e R s m args below meth c H1 locs1 cells slots (Z below args s) (F0 m (pc + 3) ls (st.map (hv_cv (hv_al E)))) := by
    intro H1 locs1 k1 k2 k3
    rw [hset, he] at k1 k2
    exact k p e s m args below meth c H1 locs1 ls hf hΨ hK ⟨k1, k2⟩ k3 hl
  have hlen : j < ((hv_fs σ a 0 fts).map (hv_cv (hv_al E))).length := by rw [List.length_map, hv_fs_len]; exact hj
  rcases h7 with h7 | ⟨host, h7⟩
  · exact va_put (C := C) (T := T) (N := N) (ty := ty) hf.1 hf.2.1 hf.2.2.2.2.1 (fun w hw => List.mem_cons_of_mem _ (h3 w hw)) tys h5 h6 hf.2.2.2.1 hK.1 hP.1 hP.2 hS q0 hq h1 j h2 (hf.2.2.2.2.1 _ (List.mem_cons_of_mem _ h7)) (fun x hx => by rw [h4] at hx; exact hx) g2 g3 hn hfit hlen hd kk
  · exact va_putN (C := C) (T := T) (N := N) (ty := ty) (host := host) hf.1 hf.2.1 hf.2.2.2.2.1 (fun w hw => List.mem_cons_of_mem _ (h3 w hw)) tys h5 h6 hf.2.2.2.1 hK.1 hP.1 hP.2 hS q0 hq h1 j h2 (va_Nw.use rfl (hK.2.1 _ h7)) (fun x hx => by rw [h4] at hx; exact hx) g2 g3 hn hfit hlen hd kk
theorem T_puti {a idx ci j : Nat} {fts : List (Nat × Nat)} {x : Int32} (hd : decode M.2.1 pc = .ok (.putfield idx, 3)) (fl : hv_FL M.1.cls idx ci j) (pf : hv_PF ci j .int) (ha : a ∈ hv_pl E) (hs : hv_sh E a = .inl (ci, fts)) (hft : fts[j]? = some (0, 0))
    (k : hv_TW l E R cells slots M Ψ Z (pc + 3) lo st (hv_ui σ a j x)) : hv_TW l E R cells slots M Ψ Z pc lo (.int x :: .ref a :: st) σ :=
  T_put (σ' := hv_ui σ a j x) hd fl pf ha hs hft rfl rfl (by simp [hv_fv, hv_ui]) (fun i ft h => by unfold hv_fv; simp [hv_ui, h]) (fun k' h => hv_ui_at h) k
theorem T_putz {a idx ci j : Nat} {fts : List (Nat × Nat)} {x : Int32} (hd : decode M.2.1 pc = .ok (.putfield idx, 3)) (fl : hv_FL M.1.cls idx ci j) (pf : hv_PF ci j .boolean) (ha : a ∈ hv_pl E) (hs : hv_sh E a = .inl (ci, fts)) (hft : fts[j]? = some (1, 0)) (hx : x = 0 ∨ x = 1)
    (k : hv_TW l E R cells slots M Ψ Z (pc + 3) lo st (hv_ui σ a j x)) : hv_TW l E R cells slots M Ψ Z pc lo (.int x :: .ref a :: st) σ :=
  T_put (σ' := hv_ui σ a j x) hd fl pf ha hs hft (by rcases hx with rfl | rfl <;> rfl) (by rcases hx with rfl | rfl <;> rfl) (by simp [hv_fv, hv_ui]) (fun i ft h => by unfold hv_fv; simp [hv_ui, h]) (fun k' h => hv_ui_at h) k
theorem T_putl {a idx ci j : Nat} {fts : List (Nat × Nat)} {x : Int64} (hd : decode M.2.1 pc = .ok (.putfield idx, 3)) (fl : hv_FL M.1.cls idx ci j) (pf : hv_PF ci j .long) (ha : a ∈ hv_pl E) (hs : hv_sh E a = .inl (ci, fts)) (hft : fts[j]? = some (2, 0))
    (k : hv_TW l E R cells slots M Ψ Z (pc + 3) lo st (hv_ul σ a j x)) : hv_TW l E R cells slots M Ψ Z pc lo (.long x :: .ref a :: st) σ :=
  T_put (σ' := hv_ul σ a j x) hd fl pf ha hs hft rfl rfl (by simp [hv_fv, hv_ul]) (fun i ft h => by unfold hv_fv; simp [hv_ul, h]) (fun k' h => hv_ul_at h) k
theorem T_putr {a idx ci j : Nat} {fts : List (Nat × Nat)} {x : Nat} {C : String} (hd : decode M.2.1 pc = .ok (.putfield idx, 3)) (fl : hv_FL M.1.cls idx ci j) (pf : hv_PF ci j (.object C)) (ha : a ∈ hv_pl E) (hs : hv_sh E a = .inl (ci, fts)) (hft : fts[j]? = some (5, 0))
    (k : hv_TW l E R cells slots M Ψ Z (pc + 3) lo st (hv_ur σ a j x)) : hv_TW l E R cells slots M Ψ Z pc lo (.ref x :: .ref a :: st) σ :=
  T_put (σ' := hv_ur σ a j x) hd fl pf ha hs hft rfl rfl (by simp [hv_fv, hv_ur]) (fun i ft h => by unfold hv_fv; simp [hv_ur, h]) (fun k' h => hv_ur_at h) k
-- calls
def hv_ok (R : Room) (cells slots d : Nat) (M' : hv_M) : Prop := d + 1 ≤ R.frames ∧ 8 + (M'.2.2.1 + 11) + 40 * d ≤ R.locals ∧ cells ≤ R.cells ∧ slots ≤ R.slots
def hv_MV0 (own : String) (idx : Nat) (M : hv_M) (n : Nat) : Prop := hv_MW M n ∧ Cond.instanceMethod M.1 ∈ hv_all ∧ Cond.selects M.1.cls M.1 M.1 ∈ hv_all ∧ (Cond.methodLink own idx M.1 ∈ hv_all ∨ ∃ host, Cond.methodLinkNest own idx M.1 host ∈ hv_nst)
theorem hv_runV0 {d idx a n : Nat} {M' : hv_M} {As : List Value} {Qc : Array Value → State → Outcome → State → Prop} (hd : decode M.2.1 pc = .ok (.invokevirtual idx, 3)) (mv : hv_MV0 M.1.cls idx M' n) (hn : As.length = n) (hst : (st.map fun v => v.category).sum ≤ 8) (ok : hv_ok R cells slots d M')
    (hc : Met l M'.1 (hv_w M') (hv_rm d) (hv_Pc E (.ref a :: As) σ) Qc 0 0 (hv_A E))
    {p : Program} {e : Env} {s : State} {m : MethodId} {args : Array Value} {below : List Frame} {meth : Method} {c : Code} {H : Heap} {locs : List Loc} {ls : Array Slot} (hrecv : ∃ cell : Cell, H[hv_al E a]? = some cell ∧ cell.vm.isStatics = false ∧ s.vm.findClass M'.1.cls = some cell.cls) (hf : hv_fix p s m args meth c M) (hK : hv_K E s s.heap) (hP : hv_P E σ H) (hS : va_S (hv_A E) s.heap H locs) (hl : lv_has ls M.2.2.1 (hv_lo E lo)) :
    va_Run p l e R s m args below meth c H locs cells slots 0 0 (F0 m pc ls ((As.reverse ++ .ref a :: st).map (hv_cv (hv_al E)))) (st.map (hv_cv (hv_al E))) (Qc ((Value.ref a :: As).map (hv_cv (hv_al E))).toArray) (hv_A E) := by
  obtain ⟨⟨w1, w2, w3⟩, w4, w5, w7⟩ := mv
  have hcat : ((st.map (hv_cv (hv_al E))).map fun v => v.category).sum ≤ 8 := by
    rw [List.map_map]
    have e2 : ((fun v : Value => v.category) ∘ hv_cv (hv_al E)) = fun v : Value => v.category := funext fun v => hv_cv_cat _ _
    rw [e2]; exact hst
  have hstk : (As.reverse ++ .ref a :: st).map (hv_cv (hv_al E)) = (As.map (hv_cv (hv_al E))).reverse ++ .ref (hv_al E a) :: st.map (hv_cv (hv_al E)) := by
    rw [List.map_append, List.map_reverse]; rfl
  rw [hstk]
  have hts := hf.2.2.2.2.1
  have hb : ∀ w ∈ hv_all, w.before args s = true := fun w hw => hts w (List.mem_cons_of_mem _ hw)
  have hpre : PreV s H M'.1.cls (hv_al E a) (hv_Pc E (.ref a :: As) σ) (As.map (hv_cv (hv_al E))) := ⟨hv_Pc_blind, hrecv, fun U hU hW => ⟨rfl, by rw [hU]; exact hP, hv_K.moved hK hW (by rw [hU]; exact hS.2.1)⟩⟩
  rcases w7 with w7 | ⟨host, w7⟩
  · exact va_runV (As := As.map (hv_cv (hv_al E))) (rest := st.map (hv_cv (hv_al E))) (b := hv_al E a) (Ts := hv_w M) ⟨hf.1, hf.2.1, hf.2.2.1, hf.2.2.2.1, hts⟩ hc ⟨callB_of n hts (hv_goodIn w1) rfl rfl rfl (hb _ w3) (hb _ w7) w2 ⟨ok.1, ok.2.1⟩, hb _ w4, hb _ w5⟩ hpre rfl (by rw [List.length_map]; exact hn) hl.1 rfl (lv_room hcat) hd ⟨ok.2.2.1, ok.2.2.2⟩
  · exact va_runVN (As := As.map (hv_cv (hv_al E))) (rest := st.map (hv_cv (hv_al E))) (b := hv_al E a) (Ts := hv_w M) (host := host) ⟨hf.1, hf.2.1, hf.2.2.1, hf.2.2.2.1, hts⟩ hc ⟨va_cnB n hts (hv_goodIn w1) rfl rfl rfl (hK.2.1 _ w7) (hb _ w3) w2 ⟨ok.1, ok.2.1⟩, hb _ w4, hb _ w5⟩ hpre rfl (by rw [List.length_map]; exact hn) hl.1 rfl (lv_room hcat) hd ⟨ok.2.2.1, ok.2.2.2⟩
theorem hv_runV {d idx ci a n : Nat} {fts : List (Nat × Nat)} {M' : hv_M} {As : List Value} {Qc : Array Value → State → Outcome → State → Prop} (hd : decode M.2.1 pc = .ok (.invokevirtual idx, 3)) (mv : hv_MV M.1.cls idx ci M' n) (ha : a ∈ hv_pl E) (hs : hv_sh E a = .inl (ci, fts)) (hn : As.length = n) (hst : (st.map fun v => v.category).sum ≤ 8) (ok : hv_ok R cells slots d M')
    (hc : Met l M'.1 (hv_w M') (hv_rm d) (hv_Pc E (.ref a :: As) σ) Qc 0 0 (hv_A E))
    {p : Program} {e : Env} {s : State} {m : MethodId} {args : Array Value} {below : List Frame} {meth : Method} {c : Code} {H : Heap} {locs : List Loc} {ls : Array Slot} (hf : hv_fix p s m args meth c M) (hK : hv_K E s s.heap) (hP : hv_P E σ H) (hS : va_S (hv_A E) s.heap H locs) (hl : lv_has ls M.2.2.1 (hv_lo E lo)) :
    va_Run p l e R s m args below meth c H locs cells slots 0 0 (F0 m pc ls ((As.reverse ++ .ref a :: st).map (hv_cv (hv_al E)))) (st.map (hv_cv (hv_al E))) (Qc ((Value.ref a :: As).map (hv_cv (hv_al E))).toArray) (hv_A E) := by
  obtain ⟨q0, hq⟩ := hv_P.place (σ := σ) ha
  rw [hv_atL hs] at hq
  obtain ⟨w1, w4, w5, ⟨T, N, w6⟩, w7⟩ := mv
  exact hv_runV0 hd ⟨w1, w4, w5, w7⟩ hn hst ok hc (va_recv (q := (M'.1.cls, T, N)) hK.1 hP.1 w6 hq) hf hK hP hS hl
theorem hv_runS {d idx n : Nat} {M' : hv_M} {As : List Value} {Qc : Array Value → State → Outcome → State → Prop} (hd : decode M.2.1 pc = .ok (.invokestatic idx, 3)) (ms : hv_MS M.1.cls idx M' n) (hn : As.length = n) (hst : (st.map fun v => v.category).sum ≤ 8) (ok : hv_ok R cells slots d M')
    (hc : Met l M'.1 (hv_w M') (hv_rm d) (hv_Pc E As σ) Qc 0 0 (hv_A E))
    {p : Program} {e : Env} {s : State} {m : MethodId} {args : Array Value} {below : List Frame} {meth : Method} {c : Code} {H : Heap} {locs : List Loc} {ls : Array Slot} (hf : hv_fix p s m args meth c M) (hK : hv_K E s s.heap) (hP : hv_P E σ H) (hS : va_S (hv_A E) s.heap H locs) (hl : lv_has ls M.2.2.1 (hv_lo E lo)) :
    va_Run p l e R s m args below meth c H locs cells slots 0 0 (F0 m pc ls ((As.reverse ++ st).map (hv_cv (hv_al E)))) (st.map (hv_cv (hv_al E))) (Qc (As.map (hv_cv (hv_al E))).toArray) (hv_A E) := by
  obtain ⟨⟨w1, w2, w3⟩, w4, w7⟩ := ms
  have hcat : ((st.map (hv_cv (hv_al E))).map fun v => v.category).sum ≤ 8 := by
    rw [List.map_map]
    have e2 : ((fun v : Value => v.category) ∘ hv_cv (hv_al E)) = fun v : Value => v.category := funext fun v => hv_cv_cat _ _
    rw [e2]; exact hst
  have hstk : (As.reverse ++ st).map (hv_cv (hv_al E)) = (As.map (hv_cv (hv_al E))).reverse ++ st.map (hv_cv (hv_al E)) := by
    rw [List.map_append, List.map_reverse]
  rw [hstk]
  have hts := hf.2.2.2.2.1
  have hb : ∀ w ∈ hv_all, w.before args s = true := fun w hw => hts w (List.mem_cons_of_mem _ hw)
  have hpre : PreS s H (hv_Pc E As σ) (As.map (hv_cv (hv_al E))) := ⟨hv_Pc_blind, fun U hU hW => ⟨rfl, by rw [hU]; exact hP, hv_K.moved hK hW (by rw [hU]; exact hS.2.1)⟩⟩
  rcases w7 with w7 | ⟨host, w7⟩
  · exact va_runS (As := As.map (hv_cv (hv_al E))) (rest := st.map (hv_cv (hv_al E))) (Ts := hv_w M) ⟨hf.1, hf.2.1, hf.2.2.1, hf.2.2.2.1, hts⟩ hc ⟨callB_of n hts (hv_goodIn w1) rfl rfl rfl (hb _ w3) (hb _ w7) w2 ⟨ok.1, ok.2.1⟩, hb _ w4⟩ hpre rfl (by rw [List.length_map]; exact hn) hl.1 rfl (lv_room hcat) hd ⟨ok.2.2.1, ok.2.2.2⟩
  · exact va_runSN (As := As.map (hv_cv (hv_al E))) (rest := st.map (hv_cv (hv_al E))) (Ts := hv_w M) (host := host) ⟨hf.1, hf.2.1, hf.2.2.1, hf.2.2.2.1, hts⟩ hc ⟨va_cnB n hts (hv_goodIn w1) rfl rfl rfl (hK.2.1 _ w7) (hb _ w3) w2 ⟨ok.1, ok.2.1⟩, hb _ w4, trivial⟩ hpre rfl (by rw [List.length_map]; exact hn) hl.1 rfl (lv_room hcat) hd ⟨ok.2.2.1, ok.2.2.2⟩
theorem T_VI {d idx ci a n : Nat} {fts : List (Nat × Nat)} {M' : hv_M} {As st0 : List Value} {Φ : Int32 → hv_S → Prop} (hd : decode M.2.1 pc = .ok (.invokevirtual idx, 3)) (mv : hv_MV M.1.cls idx ci M' n) (ha : a ∈ hv_pl E) (hs : hv_sh E a = .inl (ci, fts)) (hn : As.length = n) (hst : (st.map fun v => v.category).sum ≤ 8) (ok : hv_ok R cells slots d M') (h0 : As.reverse ++ .ref a :: st = st0)
    (hc : hv_CI l E d M' (.ref a :: As) σ Φ) (k : ∀ (v : Int32) (σ' : hv_S), Φ v σ' → hv_TW l E R cells slots M Ψ Z (pc + 3) lo (.int v :: st) σ') : hv_TW l E R cells slots M Ψ Z pc lo st0 σ := by
  intro p e s m args below meth c H locs ls hf hΨ hK hP hS hl
  subst h0
  exact va_calli (hv_runV hd mv ha hs hn hst ok hc hf hK hP hS hl) hS (fun q _ h => h) (fun q h => h) (fun r u t H1 locs1 ht hvm hw hB hz hk hS1 => k r u hw p e s m args below meth c H1 locs1 ls hf hΨ hK (by unfold hv_B at hB; rw [← ht]; exact hB) hS1 hl)
theorem T_VL {d idx ci a n : Nat} {fts : List (Nat × Nat)} {M' : hv_M} {As st0 : List Value} {Φ : Int64 → hv_S → Prop} (hd : decode M.2.1 pc = .ok (.invokevirtual idx, 3)) (mv : hv_MV M.1.cls idx ci M' n) (ha : a ∈ hv_pl E) (hs : hv_sh E a = .inl (ci, fts)) (hn : As.length = n) (hst : (st.map fun v => v.category).sum ≤ 8) (ok : hv_ok R cells slots d M') (h0 : As.reverse ++ .ref a :: st = st0)
    (hc : hv_CL l E d M' (.ref a :: As) σ Φ) (k : ∀ (v : Int64) (σ' : hv_S), Φ v σ' → hv_TW l E R cells slots M Ψ Z (pc + 3) lo (.long v :: st) σ') : hv_TW l E R cells slots M Ψ Z pc lo st0 σ := by
  intro p e s m args below meth c H locs ls hf hΨ hK hP hS hl
  subst h0
  exact va_calll (hv_runV hd mv ha hs hn hst ok hc hf hK hP hS hl) hS (fun q _ h => h) (fun q h => h) (fun r u t H1 locs1 ht hvm hw hB hz hk hS1 => k r u hw p e s m args below meth c H1 locs1 ls hf hΨ hK (by unfold hv_B at hB; rw [← ht]; exact hB) hS1 hl)
theorem T_VV {d idx ci a n : Nat} {fts : List (Nat × Nat)} {M' : hv_M} {As st0 : List Value} {Φ : hv_S → Prop} (hd : decode M.2.1 pc = .ok (.invokevirtual idx, 3)) (mv : hv_MV M.1.cls idx ci M' n) (ha : a ∈ hv_pl E) (hs : hv_sh E a = .inl (ci, fts)) (hn : As.length = n) (hst : (st.map fun v => v.category).sum ≤ 8) (ok : hv_ok R cells slots d M') (h0 : As.reverse ++ .ref a :: st = st0)
    (hc : hv_CV l E d M' (.ref a :: As) σ Φ) (k : ∀ (σ' : hv_S), Φ σ' → hv_TW l E R cells slots M Ψ Z (pc + 3) lo st σ') : hv_TW l E R cells slots M Ψ Z pc lo st0 σ := by
  intro p e s m args below meth c H locs ls hf hΨ hK hP hS hl
  subst h0
  exact va_callv (hv_runV hd mv ha hs hn hst ok hc hf hK hP hS hl) hS (fun q _ h => h) (fun q h => h) (fun u t H1 locs1 ht hvm hw hB hz hk hS1 => k u hw p e s m args below meth c H1 locs1 ls hf hΨ hK (by unfold hv_B at hB; rw [← ht]; exact hB) hS1 hl)
theorem T_VR {d idx ci a n : Nat} {fts : List (Nat × Nat)} {M' : hv_M} {As st0 : List Value} {Φ : Nat → hv_S → Prop} (hd : decode M.2.1 pc = .ok (.invokevirtual idx, 3)) (mv : hv_MV M.1.cls idx ci M' n) (ha : a ∈ hv_pl E) (hs : hv_sh E a = .inl (ci, fts)) (hn : As.length = n) (hst : (st.map fun v => v.category).sum ≤ 8) (ok : hv_ok R cells slots d M') (h0 : As.reverse ++ .ref a :: st = st0)
    (hc : hv_CR l E d M' (.ref a :: As) σ Φ) (k : ∀ (v : Nat) (σ' : hv_S), Φ v σ' → hv_TW l E R cells slots M Ψ Z (pc + 3) lo (.ref v :: st) σ') : hv_TW l E R cells slots M Ψ Z pc lo st0 σ := by
  intro p e s m args below meth c H locs ls hf hΨ hK hP hS hl
  subst h0
  refine va_callr (hv_runV hd mv ha hs hn hst ok hc hf hK hP hS hl) hS (fun q _ h => h) (fun q h => h) (fun u ra t H1 locs1 ht hvm hw hB hz hk hS1 => ?_)
  obtain ⟨rfl, hB⟩ := hB
  exact k u.1 u.2 hw p e s m args below meth c H1 locs1 ls hf hΨ hK (by unfold hv_B at hB; rw [← ht]; exact hB) hS1 hl
theorem T_SI {d idx n : Nat} {M' : hv_M} {As st0 : List Value} {Φ : Int32 → hv_S → Prop} (hd : decode M.2.1 pc = .ok (.invokestatic idx, 3)) (ms : hv_MS M.1.cls idx M' n) (hn : As.length = n) (hst : (st.map fun v => v.category).sum ≤ 8) (ok : hv_ok R cells slots d M') (h0 : As.reverse ++ st = st0)
    (hc : hv_CI l E d M' As σ Φ) (k : ∀ (v : Int32) (σ' : hv_S), Φ v σ' → hv_TW l E R cells slots M Ψ Z (pc + 3) lo (.int v :: st) σ') : hv_TW l E R cells slots M Ψ Z pc lo st0 σ := by
  intro p e s m args below meth c H locs ls hf hΨ hK hP hS hl
  subst h0
  exact va_calli (hv_runS hd ms hn hst ok hc hf hK hP hS hl) hS (fun q _ h => h) (fun q h => h) (fun r u t H1 locs1 ht hvm hw hB hz hk hS1 => k r u hw p e s m args below meth c H1 locs1 ls hf hΨ hK (by unfold hv_B at hB; rw [← ht]; exact hB) hS1 hl)
theorem T_SL {d idx n : Nat} {M' : hv_M} {As st0 : List Value} {Φ : Int64 → hv_S → Prop} (hd : decode M.2.1 pc = .ok (.invokestatic idx, 3)) (ms : hv_MS M.1.cls idx M' n) (hn : As.length = n) (hst : (st.map fun v => v.category).sum ≤ 8) (ok : hv_ok R cells slots d M') (h0 : As.reverse ++ st = st0)
    (hc : hv_CL l E d M' As σ Φ) (k : ∀ (v : Int64) (σ' : hv_S), Φ v σ' → hv_TW l E R cells slots M Ψ Z (pc + 3) lo (.long v :: st) σ') : hv_TW l E R cells slots M Ψ Z pc lo st0 σ := by
  intro p e s m args below meth c H locs ls hf hΨ hK hP hS hl
  subst h0
  exact va_calll (hv_runS hd ms hn hst ok hc hf hK hP hS hl) hS (fun q _ h => h) (fun q h => h) (fun r u t H1 locs1 ht hvm hw hB hz hk hS1 => k r u hw p e s m args below meth c H1 locs1 ls hf hΨ hK (by unfold hv_B at hB; rw [← ht]; exact hB) hS1 hl)
theorem T_SV {d idx n : Nat} {M' : hv_M} {As st0 : List Value} {Φ : hv_S → Prop} (hd : decode M.2.1 pc = .ok (.invokestatic idx, 3)) (ms : hv_MS M.1.cls idx M' n) (hn : As.length = n) (hst : (st.map fun v => v.category).sum ≤ 8) (ok : hv_ok R cells slots d M') (h0 : As.reverse ++ st = st0)
    (hc : hv_CV l E d M' As σ Φ) (k : ∀ (σ' : hv_S), Φ σ' → hv_TW l E R cells slots M Ψ Z (pc + 3) lo st σ') : hv_TW l E R cells slots M Ψ Z pc lo st0 σ := by
  intro p e s m args below meth c H locs ls hf hΨ hK hP hS hl
  subst h0
  exact va_callv (hv_runS hd ms hn hst ok hc hf hK hP hS hl) hS (fun q _ h => h) (fun q h => h) (fun u t H1 locs1 ht hvm hw hB hz hk hS1 => k u hw p e s m args below meth c H1 locs1 ls hf hΨ hK (by unfold hv_B at hB; rw [← ht]; exact hB) hS1 hl)
end V
end
section
-- PLACES, SHAPES, METHODS, LINKS: printed by wip/gen/p06.py of the tables' words
def hv_ft0 : List (Nat × Nat) := [(3, 38), (0, 0), (0, 0), (0, 0), (0, 0)]
def hv_ft1 : List (Nat × Nat) := [(3, 10), (0, 0), (0, 0), (0, 0), (0, 0), (5, 0)]
def hv_ft2 : List (Nat × Nat) := [(3, 2), (3, 3), (3, 4), (3, 5), (3, 6), (3, 7), (3, 8), (0, 0), (0, 0)]
def hv_ft3 : List (Nat × Nat) := [(3, 1), (3, 16), (3, 17), (5, 0), (0, 0)]
def hv_ft4 : List (Nat × Nat) := [(4, 1), (0, 0), (0, 0), (0, 0), (0, 0), (1, 0)]
def hv_ft5 : List (Nat × Nat) := [(3, 1), (3, 15), (3, 19), (3, 20), (0, 0), (0, 0), (0, 0), (0, 0), (0, 0), (0, 0), (0, 0)]
def hv_ft6 : List (Nat × Nat) := [(3, 1), (3, 15), (3, 18), (3, 22), (3, 23), (3, 32), (2, 0), (2, 0), (3, 33), (3, 34)]
def hv_ft7 : List (Nat × Nat) := [(3, 40), (3, 41), (3, 42)]
def hv_ft8 : List (Nat × Nat) := [(3, 1), (3, 15), (3, 18), (3, 21), (3, 36)]
def hv_ft9 : List (Nat × Nat) := [(3, 1), (3, 9), (3, 15), (3, 18), (3, 21), (3, 35), (3, 37), (3, 39)]
def hv_ft10 : List (Nat × Nat) := [(0, 0), (0, 0), (3, 61), (3, 62), (3, 63), (3, 64), (3, 65), (3, 66), (3, 67), (0, 0), (0, 0), (3, 68), (3, 69), (3, 70), (0, 0), (0, 0), (0, 0), (0, 0), (1, 0), (0, 0), (0, 0), (0, 0), (0, 0), (3, 71), (1, 0), (3, 72), (3, 73), (0, 0), (0, 0), (0, 0), (0, 0), (0, 0), (0, 0), (0, 0), (3, 74), (0, 0), (0, 0), (0, 0), (3, 75), (3, 76), (2, 0), (0, 0), (2, 0), (2, 0), (3, 77), (3, 78), (0, 0), (3, 79), (3, 80), (3, 81), (3, 82), (3, 83)]
def hv_sh1 : Nat → hv_Sh := fun k => match k with
  | 0 => .inl (9, hv_ft9)
  | 1 => .inl (2, hv_ft2)
  | 2 => .inr (0, 3)
  | 3 => .inr (0, 24)
  | 4 => .inr (0, 24)
  | 5 => .inr (0, 24)
  | 6 => .inr (0, 24)
  | 7 => .inr (0, 24)
  | 8 => .inr (0, 24)
  | 9 => .inl (1, hv_ft1)
  | 10 => .inr (0, 100)
  | 11 => .inl (4, hv_ft4)
  | 12 => .inr (0, 100)
  | 13 => .inl (4, hv_ft4)
  | 14 => .inr (0, 100)
  | 15 => .inl (3, hv_ft3)
  | 16 => .inr (0, 24)
  | 17 => .inr (0, 5)
  | 18 => .inl (5, hv_ft5)
  | 19 => .inr (0, 64)
  | 20 => .inr (0, 8)
  | 21 => .inl (6, hv_ft6)
  | 22 => .inr (0, 8)
  | 23 => .inr (27, 8)
  | 24 => .inr (1, 9)
  | 25 => .inr (1, 9)
  | 26 => .inr (1, 9)
  | 27 => .inr (1, 9)
  | 28 => .inr (1, 9)
  | 29 => .inr (1, 9)
  | 30 => .inr (1, 9)
  | 31 => .inr (1, 9)
  | 32 => .inr (1, 8)
  | 33 => .inr (1, 256)
  | 34 => .inr (1, 256)
  | 35 => .inl (8, hv_ft8)
  | 36 => .inr (1, 8)
  | 37 => .inl (0, hv_ft0)
  | 38 => .inr (0, 20)
  | 39 => .inl (7, hv_ft7)
  | 40 => .inr (0, 6)
  | 41 => .inr (0, 6)
  | 42 => .inr (1, 360)
  | _ => .inr (0, 0)
def hv_sh2 : Nat → hv_Sh := fun k => match k with
  | 60 => .inl (10, hv_ft10)
  | 61 => .inr (0, 24)
  | 62 => .inr (0, 24)
  | 63 => .inr (0, 24)
  | 64 => .inr (0, 24)
  | 65 => .inr (0, 24)
  | 66 => .inr (0, 24)
  | 67 => .inr (2, 24)
  | 68 => .inr (0, 200)
  | 69 => .inr (0, 2)
  | 70 => .inr (0, 5)
  | 71 => .inr (2, 192)
  | 72 => .inr (0, 101)
  | 73 => .inr (2, 101)
  | 74 => .inr (0, 64)
  | 75 => .inr (1, 8)
  | 76 => .inr (1, 72)
  | 77 => .inr (0, 24)
  | 78 => .inr (0, 8)
  | 79 => .inr (0, 20)
  | 80 => .inr (0, 6)
  | 81 => .inr (0, 6)
  | 82 => .inr (1, 360)
  | 83 => .inr (1, 60)
  | _ => .inr (0, 0)
def hv_pl1 : List Nat := [0, 1, 2, 3, 4, 5, 6, 7, 8, 9, 10, 11, 12, 13, 14, 15, 16, 17, 18, 19, 20, 21, 22, 23, 24, 25, 26, 27, 28, 29, 30, 31, 32, 33, 34, 35, 36, 37, 38, 39, 40, 41, 42]
def hv_pl2 : List Nat := [60, 61, 62, 63, 64, 65, 66, 67, 68, 69, 70, 71, 72, 73, 74, 75, 76, 77, 78, 79, 80, 81, 82, 83]
abbrev hv_Ev : Type := (Nat → Nat) × va_G × (Nat → ClassId) × (Nat → Prop)
abbrev hv_e1 (e : hv_Ev) : hv_E := (hv_sh1, hv_pl1, e.1, e.2.1, e.2.2.1, e.2.2.2)
abbrev hv_e2 (e : hv_Ev) : hv_E := (hv_sh2, hv_pl2, e.1, e.2.1, e.2.2.1, e.2.2.2)
theorem hp_0 : 0 ∈ hv_pl1 := by decide
theorem hs_0 : hv_sh1 0 = .inl (9, hv_ft9) := rfl
theorem hp_1 : 1 ∈ hv_pl1 := by decide
theorem hs_1 : hv_sh1 1 = .inl (2, hv_ft2) := rfl
theorem hp_2 : 2 ∈ hv_pl1 := by decide
theorem hs_2 : hv_sh1 2 = .inr (0, 3) := rfl
theorem hp_3 : 3 ∈ hv_pl1 := by decide
theorem hs_3 : hv_sh1 3 = .inr (0, 24) := rfl
theorem hp_4 : 4 ∈ hv_pl1 := by decide
theorem hs_4 : hv_sh1 4 = .inr (0, 24) := rfl
theorem hp_5 : 5 ∈ hv_pl1 := by decide
theorem hs_5 : hv_sh1 5 = .inr (0, 24) := rfl
theorem hp_6 : 6 ∈ hv_pl1 := by decide
theorem hs_6 : hv_sh1 6 = .inr (0, 24) := rfl
theorem hp_7 : 7 ∈ hv_pl1 := by decide
theorem hs_7 : hv_sh1 7 = .inr (0, 24) := rfl
theorem hp_8 : 8 ∈ hv_pl1 := by decide
theorem hs_8 : hv_sh1 8 = .inr (0, 24) := rfl
theorem hp_9 : 9 ∈ hv_pl1 := by decide
theorem hs_9 : hv_sh1 9 = .inl (1, hv_ft1) := rfl
theorem hp_10 : 10 ∈ hv_pl1 := by decide
theorem hs_10 : hv_sh1 10 = .inr (0, 100) := rfl
theorem hp_11 : 11 ∈ hv_pl1 := by decide
theorem hs_11 : hv_sh1 11 = .inl (4, hv_ft4) := rfl
theorem hp_12 : 12 ∈ hv_pl1 := by decide
theorem hs_12 : hv_sh1 12 = .inr (0, 100) := rfl
theorem hp_13 : 13 ∈ hv_pl1 := by decide
theorem hs_13 : hv_sh1 13 = .inl (4, hv_ft4) := rfl
theorem hp_14 : 14 ∈ hv_pl1 := by decide
theorem hs_14 : hv_sh1 14 = .inr (0, 100) := rfl
theorem hp_15 : 15 ∈ hv_pl1 := by decide
theorem hs_15 : hv_sh1 15 = .inl (3, hv_ft3) := rfl
theorem hp_16 : 16 ∈ hv_pl1 := by decide
theorem hs_16 : hv_sh1 16 = .inr (0, 24) := rfl
theorem hp_17 : 17 ∈ hv_pl1 := by decide
theorem hs_17 : hv_sh1 17 = .inr (0, 5) := rfl
theorem hp_18 : 18 ∈ hv_pl1 := by decide
theorem hs_18 : hv_sh1 18 = .inl (5, hv_ft5) := rfl
theorem hp_19 : 19 ∈ hv_pl1 := by decide
theorem hs_19 : hv_sh1 19 = .inr (0, 64) := rfl
theorem hp_20 : 20 ∈ hv_pl1 := by decide
theorem hs_20 : hv_sh1 20 = .inr (0, 8) := rfl
theorem hp_21 : 21 ∈ hv_pl1 := by decide
theorem hs_21 : hv_sh1 21 = .inl (6, hv_ft6) := rfl
theorem hp_22 : 22 ∈ hv_pl1 := by decide
theorem hs_22 : hv_sh1 22 = .inr (0, 8) := rfl
theorem hp_23 : 23 ∈ hv_pl1 := by decide
theorem hs_23 : hv_sh1 23 = .inr (27, 8) := rfl
theorem hp_24 : 24 ∈ hv_pl1 := by decide
theorem hs_24 : hv_sh1 24 = .inr (1, 9) := rfl
theorem hp_25 : 25 ∈ hv_pl1 := by decide
theorem hs_25 : hv_sh1 25 = .inr (1, 9) := rfl
theorem hp_26 : 26 ∈ hv_pl1 := by decide
theorem hs_26 : hv_sh1 26 = .inr (1, 9) := rfl
theorem hp_27 : 27 ∈ hv_pl1 := by decide
theorem hs_27 : hv_sh1 27 = .inr (1, 9) := rfl
theorem hp_28 : 28 ∈ hv_pl1 := by decide
theorem hs_28 : hv_sh1 28 = .inr (1, 9) := rfl
theorem hp_29 : 29 ∈ hv_pl1 := by decide
theorem hs_29 : hv_sh1 29 = .inr (1, 9) := rfl
theorem hp_30 : 30 ∈ hv_pl1 := by decide
theorem hs_30 : hv_sh1 30 = .inr (1, 9) := rfl
theorem hp_31 : 31 ∈ hv_pl1 := by decide
theorem hs_31 : hv_sh1 31 = .inr (1, 9) := rfl
theorem hp_32 : 32 ∈ hv_pl1 := by decide
theorem hs_32 : hv_sh1 32 = .inr (1, 8) := rfl
theorem hp_33 : 33 ∈ hv_pl1 := by decide
theorem hs_33 : hv_sh1 33 = .inr (1, 256) := rfl
theorem hp_34 : 34 ∈ hv_pl1 := by decide
theorem hs_34 : hv_sh1 34 = .inr (1, 256) := rfl
theorem hp_35 : 35 ∈ hv_pl1 := by decide
theorem hs_35 : hv_sh1 35 = .inl (8, hv_ft8) := rfl
theorem hp_36 : 36 ∈ hv_pl1 := by decide
theorem hs_36 : hv_sh1 36 = .inr (1, 8) := rfl
theorem hp_37 : 37 ∈ hv_pl1 := by decide
theorem hs_37 : hv_sh1 37 = .inl (0, hv_ft0) := rfl
theorem hp_38 : 38 ∈ hv_pl1 := by decide
theorem hs_38 : hv_sh1 38 = .inr (0, 20) := rfl
theorem hp_39 : 39 ∈ hv_pl1 := by decide
theorem hs_39 : hv_sh1 39 = .inl (7, hv_ft7) := rfl
theorem hp_40 : 40 ∈ hv_pl1 := by decide
theorem hs_40 : hv_sh1 40 = .inr (0, 6) := rfl
theorem hp_41 : 41 ∈ hv_pl1 := by decide
theorem hs_41 : hv_sh1 41 = .inr (0, 6) := rfl
theorem hp_42 : 42 ∈ hv_pl1 := by decide
theorem hs_42 : hv_sh1 42 = .inr (1, 360) := rfl
theorem hp_60 : 60 ∈ hv_pl2 := by decide
theorem hs_60 : hv_sh2 60 = .inl (10, hv_ft10) := rfl
theorem hp_61 : 61 ∈ hv_pl2 := by decide
theorem hs_61 : hv_sh2 61 = .inr (0, 24) := rfl
theorem hp_62 : 62 ∈ hv_pl2 := by decide
theorem hs_62 : hv_sh2 62 = .inr (0, 24) := rfl
theorem hp_63 : 63 ∈ hv_pl2 := by decide
theorem hs_63 : hv_sh2 63 = .inr (0, 24) := rfl
theorem hp_64 : 64 ∈ hv_pl2 := by decide
theorem hs_64 : hv_sh2 64 = .inr (0, 24) := rfl
theorem hp_65 : 65 ∈ hv_pl2 := by decide
theorem hs_65 : hv_sh2 65 = .inr (0, 24) := rfl
theorem hp_66 : 66 ∈ hv_pl2 := by decide
theorem hs_66 : hv_sh2 66 = .inr (0, 24) := rfl
theorem hp_67 : 67 ∈ hv_pl2 := by decide
theorem hs_67 : hv_sh2 67 = .inr (2, 24) := rfl
theorem hp_68 : 68 ∈ hv_pl2 := by decide
theorem hs_68 : hv_sh2 68 = .inr (0, 200) := rfl
theorem hp_69 : 69 ∈ hv_pl2 := by decide
theorem hs_69 : hv_sh2 69 = .inr (0, 2) := rfl
theorem hp_70 : 70 ∈ hv_pl2 := by decide
theorem hs_70 : hv_sh2 70 = .inr (0, 5) := rfl
theorem hp_71 : 71 ∈ hv_pl2 := by decide
theorem hs_71 : hv_sh2 71 = .inr (2, 192) := rfl
theorem hp_72 : 72 ∈ hv_pl2 := by decide
theorem hs_72 : hv_sh2 72 = .inr (0, 101) := rfl
theorem hp_73 : 73 ∈ hv_pl2 := by decide
theorem hs_73 : hv_sh2 73 = .inr (2, 101) := rfl
theorem hp_74 : 74 ∈ hv_pl2 := by decide
theorem hs_74 : hv_sh2 74 = .inr (0, 64) := rfl
theorem hp_75 : 75 ∈ hv_pl2 := by decide
theorem hs_75 : hv_sh2 75 = .inr (1, 8) := rfl
theorem hp_76 : 76 ∈ hv_pl2 := by decide
theorem hs_76 : hv_sh2 76 = .inr (1, 72) := rfl
theorem hp_77 : 77 ∈ hv_pl2 := by decide
theorem hs_77 : hv_sh2 77 = .inr (0, 24) := rfl
theorem hp_78 : 78 ∈ hv_pl2 := by decide
theorem hs_78 : hv_sh2 78 = .inr (0, 8) := rfl
theorem hp_79 : 79 ∈ hv_pl2 := by decide
theorem hs_79 : hv_sh2 79 = .inr (0, 20) := rfl
theorem hp_80 : 80 ∈ hv_pl2 := by decide
theorem hs_80 : hv_sh2 80 = .inr (0, 6) := rfl
theorem hp_81 : 81 ∈ hv_pl2 := by decide
theorem hs_81 : hv_sh2 81 = .inr (0, 6) := rfl
theorem hp_82 : 82 ∈ hv_pl2 := by decide
theorem hs_82 : hv_sh2 82 = .inr (1, 360) := rfl
theorem hp_83 : 83 ∈ hv_pl2 := by decide
theorem hs_83 : hv_sh2 83 = .inr (1, 60) := rfl
abbrev m_X9_init : hv_M := (yX9_init, cX9_init, 1, none)
abbrev m_X2_init : hv_M := (yX2_init, cX2_init, 1, none)
abbrev m_J7_fill_53178 : hv_M := (yJ7_fill_53178, cJ7_fill_53178, 4, none)
abbrev m_X1_init : hv_M := (yX1_init, cX1_init, 1, none)
abbrev m_X4_init : hv_M := (yX4_init, cX4_init, 1, none)
abbrev m_X4_clear : hv_M := (yX4_clear, cX4_clear, 1, none)
abbrev m_X3_init : hv_M := (yX3_init, cX3_init, 2, none)
abbrev m_X5_init : hv_M := (yX5_init, cX5_init, 3, none)
abbrev m_X6_init : hv_M := (yX6_init, cX6_init, 4, none)
abbrev m_X8_init : hv_M := (yX8_init, cX8_init, 5, none)
abbrev m_X0_init : hv_M := (yX0_init, cX0_init, 1, none)
abbrev m_X7_init : hv_M := (yX7_init, cX7_init, 1, none)
abbrev m_X9_member : hv_M := (yX9_member, cX9_member, 2, (some .int))
abbrev m_X9_think : hv_M := (yX9_think, cX9_think, 6, (some .int))
abbrev m_X2_sits : hv_M := (yX2_sits, cX2_sits, 2, (some .boolean))
abbrev m_X9_isMatter : hv_M := (yX9_isMatter, cX9_isMatter, 1, (some .boolean))
abbrev m_X2_opinion : hv_M := (yX2_opinion, cX2_opinion, 3, (some .int))
abbrev m_X9_cell : hv_M := (yX9_cell, cX9_cell, 2, (some .int))
abbrev m_X2_form : hv_M := (yX2_form, cX2_form, 6, none)
abbrev m_X3_learn : hv_M := (yX3_learn, cX3_learn, 3, none)
abbrev m_X3_maskOf : hv_M := (yX3_maskOf, cX3_maskOf, 5, (some .int))
abbrev m_X4_forbid : hv_M := (yX4_forbid, cX4_forbid, 6, (some .boolean))
abbrev m_X4_isTrue : hv_M := (yX4_isTrue, cX4_isTrue, 5, (some .boolean))
abbrev m_X9_hand : hv_M := (yX9_hand, cX9_hand, 4, (some .int))
abbrev m_X2_renew : hv_M := (yX2_renew, cX2_renew, 7, (some .int))
abbrev m_X9_give : hv_M := (yX9_give, cX9_give, 4, (some .int))
abbrev m_X9_names : hv_M := (yX9_names, cX9_names, 7, (some .int))
abbrev m_X9_back : hv_M := (yX9_back, cX9_back, 6, (some .int))
abbrev m_X9_pass : hv_M := (yX9_pass, cX9_pass, 2, (some .int))
abbrev m_X9_of : hv_M := (yX9_of, cX9_of, 5, (some .int))
abbrev m_X9_feed : hv_M := (yX9_feed, cX9_feed, 4, (some .int))
abbrev m_X1_append : hv_M := (yX1_append, cX1_append, 2, none)
abbrev m_X9_hall : hv_M := (yX9_hall, cX9_hall, 2, (some .int))
abbrev m_X1_fault : hv_M := (yX1_fault, cX1_fault, 2, (some .int))
abbrev m_X1_clause : hv_M := (yX1_clause, cX1_clause, 1, (some .boolean))
abbrev m_X1_seen : hv_M := (yX1_seen, cX1_seen, 1, (some .int))
abbrev m_X1_word : hv_M := (yX1_word, cX1_word, 3, (some .boolean))
abbrev m_J0_length_8abf5 : hv_M := (yJ0_length_8abf5, cJ0_length_8abf5, 1, (some .int))
abbrev m_J0_coder_7d493 : hv_M := (yJ0_coder_7d493, cJ0_coder_7d493, 1, (some .byte))
abbrev m_J0_charAt_5068e : hv_M := (yJ0_charAt_5068e, cJ0_charAt_5068e, 2, (some .char))
abbrev m_J0_isLatin1_aae02 : hv_M := (yJ0_isLatin1_aae02, cJ0_isLatin1_aae02, 1, (some .boolean))
abbrev m_J1_charAt_3b067 : hv_M := (yJ1_charAt_3b067, cJ1_charAt_3b067, 2, (some .char))
abbrev m_J0_checkIndex_df160 : hv_M := (yJ0_checkIndex_df160, cJ0_checkIndex_df160, 2, none)
abbrev m_J3_checkIndex_8e157 : hv_M := (yJ3_checkIndex_8e157, cJ3_checkIndex_8e157, 3, (some .int))
abbrev m_J2_charAt_3b067 : hv_M := (yJ2_charAt_3b067, cJ2_charAt_3b067, 2, (some .char))
abbrev m_J2_checkIndex_2214a : hv_M := (yJ2_checkIndex_2214a, cJ2_checkIndex_2214a, 2, none)
abbrev m_J2_length_9d52b : hv_M := (yJ2_length_9d52b, cJ2_length_9d52b, 1, (some .int))
abbrev m_J2_getChar_3b067 : hv_M := (yJ2_getChar_3b067, cJ2_getChar_3b067, 2, (some .char))
abbrev m_X1_either : hv_M := (yX1_either, cX1_either, 4, (some .boolean))
abbrev m_X1_single : hv_M := (yX1_single, cX1_single, 3, (some .boolean))
abbrev m_X1_test : hv_M := (yX1_test, cX1_test, 3, (some .boolean))
abbrev m_X1_signOf : hv_M := (yX1_signOf, cX1_signOf, 4, (some .int))
abbrev m_X1_figuresOf : hv_M := (yX1_figuresOf, cX1_figuresOf, 3, (some .boolean))
abbrev m_X4_test : hv_M := (yX4_test, cX4_test, 3, (some .int))
abbrev m_X4_add : hv_M := (yX4_add, cX4_add, 2, none)
abbrev m_X1_need : hv_M := (yX1_need, cX1_need, 1, (some .boolean))
abbrev m_X1_ring : hv_M := (yX1_ring, cX1_ring, 2, (some .boolean))
abbrev m_X3_adopt : hv_M := (yX3_adopt, cX3_adopt, 4, (some (.object "HandedVoices$Rules")))
abbrev m_X9_barred : hv_M := (yX9_barred, cX9_barred, 4, (some .int))
abbrev m_X3_bars : hv_M := (yX3_bars, cX3_bars, 4, (some .boolean))
abbrev m_X9_share : hv_M := (yX9_share, cX9_share, 4, (some .int))
abbrev m_X5_lay : hv_M := (yX5_lay, cX5_lay, 6, none)
abbrev m_X5_layFirm : hv_M := (yX5_layFirm, cX5_layFirm, 8, none)
abbrev m_X5_send : hv_M := (yX5_send, cX5_send, 4, none)
abbrev m_X5_stay : hv_M := (yX5_stay, cX5_stay, 3, none)
abbrev m_X2_isSelf : hv_M := (yX2_isSelf, cX2_isSelf, 3, (some .boolean))
abbrev m_X5_layHand : hv_M := (yX5_layHand, cX5_layHand, 4, none)
abbrev m_X2_surestOf : hv_M := (yX2_surestOf, cX2_surestOf, 7, (some .int))
abbrev m_X5_layOrders : hv_M := (yX5_layOrders, cX5_layOrders, 3, none)
abbrev m_X5_seekWays : hv_M := (yX5_seekWays, cX5_seekWays, 8, none)
abbrev m_X5_openNames : hv_M := (yX5_openNames, cX5_openNames, 5, (some .int))
abbrev m_J6_bitCount_0f7a4 : hv_M := (yJ6_bitCount_0f7a4, cJ6_bitCount_0f7a4, 1, (some .int))
abbrev m_X5_reachAll : hv_M := (yX5_reachAll, cX5_reachAll, 3, (some .boolean))
abbrev m_X5_nameOf : hv_M := (yX5_nameOf, cX5_nameOf, 5, (some .int))
abbrev m_X5_reaching : hv_M := (yX5_reaching, cX5_reaching, 5, (some .int))
abbrev m_X9_voices : hv_M := (yX9_voices, cX9_voices, 4, (some .long))
abbrev m_X9_isPart : hv_M := (yX9_isPart, cX9_isPart, 1, (some .boolean))
abbrev m_X6_reckonNow : hv_M := (yX6_reckonNow, cX6_reckonNow, 2, none)
abbrev m_X6_reckon : hv_M := (yX6_reckon, cX6_reckon, 6, none)
abbrev m_X6_weigh : hv_M := (yX6_weigh, cX6_weigh, 6, none)
abbrev m_J7_fill_d0a16 : hv_M := (yJ7_fill_d0a16, cJ7_fill_d0a16, 5, none)
abbrev m_X6_listHeard : hv_M := (yX6_listHeard, cX6_listHeard, 4, (some .int))
abbrev m_X6_fillRows : hv_M := (yX6_fillRows, cX6_fillRows, 4, none)
abbrev m_X6_unroll : hv_M := (yX6_unroll, cX6_unroll, 8, (some .long))
abbrev m_X6_clear : hv_M := (yX6_clear, cX6_clear, 11, none)
abbrev m_J9_min_f86c9 : hv_M := (yJ9_min_f86c9, cJ9_min_f86c9, 4, (some .long))
abbrev m_X9_lowest : hv_M := (yX9_lowest, cX9_lowest, 7, (some .long))
abbrev m_X9_commonDivisor : hv_M := (yX9_commonDivisor, cX9_commonDivisor, 7, (some .long))
abbrev m_X9_lost : hv_M := (yX9_lost, cX9_lost, 2, (some .int))
abbrev m_X9_decided : hv_M := (yX9_decided, cX9_decided, 2, (some .int))
abbrev m_X6_sumOf : hv_M := (yX6_sumOf, cX6_sumOf, 5, (some .long))
abbrev m_X6_decides : hv_M := (yX6_decides, cX6_decides, 3, (some .boolean))
abbrev m_X9_turning : hv_M := (yX9_turning, cX9_turning, 6, (some .int))
abbrev m_X9_power : hv_M := (yX9_power, cX9_power, 8, (some .int))
abbrev m_X6_withVoices : hv_M := (yX6_withVoices, cX6_withVoices, 3, (some .int))
abbrev m_X9_few : hv_M := (yX9_few, cX9_few, 6, (some .int))
abbrev m_X9_best : hv_M := (yX9_best, cX9_best, 3, (some .int))
abbrev m_X9_right : hv_M := (yX9_right, cX9_right, 5, (some .long))
abbrev m_X6_chanceIf : hv_M := (yX6_chanceIf, cX6_chanceIf, 5, (some .long))
abbrev m_X6_chance : hv_M := (yX6_chance, cX6_chance, 7, (some .long))
abbrev m_X6_fork : hv_M := (yX6_fork, cX6_fork, 6, none)
abbrev m_X9_surest : hv_M := (yX9_surest, cX9_surest, 2, (some .int))
abbrev m_X9_breach : hv_M := (yX9_breach, cX9_breach, 2, (some .int))
abbrev m_X8_firstBreach : hv_M := (yX8_firstBreach, cX8_firstBreach, 8, (some .int))
abbrev m_X9_rather : hv_M := (yX9_rather, cX9_rather, 2, (some .int))
abbrev m_X8_firstWish : hv_M := (yX8_firstWish, cX8_firstWish, 6, (some .int))
abbrev m_X9_settle : hv_M := (yX9_settle, cX9_settle, 6, (some .int))
abbrev m_X9_heap : hv_M := (yX9_heap, cX9_heap, 3, (some .long))
abbrev m_X6_highest : hv_M := (yX6_highest, cX6_highest, 4, (some .long))
abbrev m_J9_max_f86c9 : hv_M := (yJ9_max_f86c9, cJ9_max_f86c9, 4, (some .long))
abbrev m_X9_mend : hv_M := (yX9_mend, cX9_mend, 4, (some .int))
abbrev m_X8_bestMending : hv_M := (yX8_bestMending, cX8_bestMending, 13, (some .int))
abbrev m_X8_movers : hv_M := (yX8_movers, cX8_movers, 4, (some .int))
abbrev m_X9_late : hv_M := (yX9_late, cX9_late, 2, (some .int))
abbrev m_X8_lastOtherwise : hv_M := (yX8_lastOtherwise, cX8_lastOtherwise, 6, (some .int))
abbrev m_X8_decidedAt : hv_M := (yX8_decidedAt, cX8_decidedAt, 3, (some .boolean))
abbrev m_X2_takenBackAt : hv_M := (yX2_takenBackAt, cX2_takenBackAt, 5, (some .int))
abbrev m_X9_fewest : hv_M := (yX9_fewest, cX9_fewest, 2, (some .int))
abbrev m_X8_fewestToWin : hv_M := (yX8_fewestToWin, cX8_fewestToWin, 8, (some .int))
abbrev m_X9_table : hv_M := (yX9_table, cX9_table, 8, (some .int))
abbrev m_X7_exists : hv_M := (yX7_exists, cX7_exists, 2, (some .boolean))
abbrev m_X7_get : hv_M := (yX7_get, cX7_get, 3, (some .long))
abbrev m_X9_act : hv_M := (yX9_act, cX9_act, 5, (some .int))
abbrev m_X0_clear : hv_M := (yX0_clear, cX0_clear, 1, none)
abbrev m_X0_run : hv_M := (yX0_run, cX0_run, 6, (some .int))
abbrev m_X0_gives : hv_M := (yX0_gives, cX0_gives, 4, (some .int))
abbrev m_X0_begin : hv_M := (yX0_begin, cX0_begin, 2, none)
abbrev m_X0_holds : hv_M := (yX0_holds, cX0_holds, 3, (some .int))
abbrev m_X0_tells : hv_M := (yX0_tells, cX0_tells, 3, (some .int))
abbrev m_X0_tellsAsHand : hv_M := (yX0_tellsAsHand, cX0_tellsAsHand, 2, (some .int))
abbrev m_X9_trace : hv_M := (yX9_trace, cX9_trace, 2, (some .int))
abbrev m_X0_kept : hv_M := (yX0_kept, cX0_kept, 1, (some .int))
abbrev m_J9_min_7cf53 : hv_M := (yJ9_min_7cf53, cJ9_min_7cf53, 2, (some .int))
abbrev m_X9_taken : hv_M := (yX9_taken, cX9_taken, 6, (some .int))
abbrev m_X9_count : hv_M := (yX9_count, cX9_count, 2, (some .int))
abbrev m_X9_tape : hv_M := (yX9_tape, cX9_tape, 4, (some .int))
abbrev m_X7_reset : hv_M := (yX7_reset, cX7_reset, 5, none)
abbrev m_X9_item : hv_M := (yX9_item, cX9_item, 5, (some .int))
abbrev m_X7_put : hv_M := (yX7_put, cX7_put, 5, none)
abbrev m_X7_narrow : hv_M := (yX7_narrow, cX7_narrow, 3, (some .long))
abbrev m_X9_read : hv_M := (yX9_read, cX9_read, 3, (some .long))
abbrev m_X9_shift : hv_M := (yX9_shift, cX9_shift, 6, (some .int))
abbrev m_X7_holds : hv_M := (yX7_holds, cX7_holds, 4, (some .boolean))
abbrev m_X7_copy : hv_M := (yX7_copy, cX7_copy, 6, none)
abbrev m_X10_init : hv_M := (yX10_init, cX10_init, 1, none)
abbrev m_X10_member : hv_M := (yX10_member, cX10_member, 2, (some .int))
abbrev m_X10_put : hv_M := (yX10_put, cX10_put, 6, none)
abbrev m_X10_think : hv_M := (yX10_think, cX10_think, 7, (some .int))
abbrev m_X10_isMember : hv_M := (yX10_isMember, cX10_isMember, 2, (some .boolean))
abbrev m_X10_in : hv_M := (yX10_in, cX10_in, 4, (some .boolean))
abbrev m_X10_isMatter : hv_M := (yX10_isMatter, cX10_isMatter, 2, (some .boolean))
abbrev m_X10_hand : hv_M := (yX10_hand, cX10_hand, 5, (some .int))
abbrev m_X10_give : hv_M := (yX10_give, cX10_give, 5, (some .int))
abbrev m_X10_names : hv_M := (yX10_names, cX10_names, 7, (some .int))
abbrev m_X10_back : hv_M := (yX10_back, cX10_back, 5, (some .int))
abbrev m_X10_pass : hv_M := (yX10_pass, cX10_pass, 2, (some .int))
abbrev m_X10_of : hv_M := (yX10_of, cX10_of, 5, (some .int))
abbrev m_X10_feed : hv_M := (yX10_feed, cX10_feed, 4, (some .int))
abbrev m_X10_hall : hv_M := (yX10_hall, cX10_hall, 2, (some .int))
abbrev m_X10_goes : hv_M := (yX10_goes, cX10_goes, 3, (some .boolean))
abbrev m_X10_takesClause : hv_M := (yX10_takesClause, cX10_takesClause, 1, (some .boolean))
abbrev m_X10_next : hv_M := (yX10_next, cX10_next, 1, (some .int))
abbrev m_X10_takesWord : hv_M := (yX10_takesWord, cX10_takesWord, 4, (some .boolean))
abbrev m_X10_takes : hv_M := (yX10_takes, cX10_takes, 2, (some .boolean))
abbrev m_X10_takesE : hv_M := (yX10_takesE, cX10_takesE, 3, (some .boolean))
abbrev m_X10_takesTest : hv_M := (yX10_takesTest, cX10_takesTest, 4, (some .boolean))
abbrev m_X10_takesNumber : hv_M := (yX10_takesNumber, cX10_takesNumber, 3, (some .boolean))
abbrev m_X10_isDigit : hv_M := (yX10_isDigit, cX10_isDigit, 1, (some .boolean))
abbrev m_X10_push : hv_M := (yX10_push, cX10_push, 3, none)
abbrev m_X10_settleSigns : hv_M := (yX10_settleSigns, cX10_settleSigns, 2, none)
abbrev m_X10_takesNeed : hv_M := (yX10_takesNeed, cX10_takesNeed, 2, (some .boolean))
abbrev m_X10_barred : hv_M := (yX10_barred, cX10_barred, 4, (some .int))
abbrev m_X10_isBar : hv_M := (yX10_isBar, cX10_isBar, 5, (some .boolean))
abbrev m_X10_share : hv_M := (yX10_share, cX10_share, 4, (some .int))
abbrev m_X10_findAll : hv_M := (yX10_findAll, cX10_findAll, 4, none)
abbrev m_X10_findHands : hv_M := (yX10_findHands, cX10_findHands, 4, none)
abbrev m_X10_findHand : hv_M := (yX10_findHand, cX10_findHand, 5, none)
abbrev m_X10_hands : hv_M := (yX10_hands, cX10_hands, 6, none)
abbrev m_X10_surestOf : hv_M := (yX10_surestOf, cX10_surestOf, 5, (some .int))
abbrev m_X10_findBest : hv_M := (yX10_findBest, cX10_findBest, 4, none)
abbrev m_X10_isOrder : hv_M := (yX10_isOrder, cX10_isOrder, 3, (some .boolean))
abbrev m_X10_putOrders : hv_M := (yX10_putOrders, cX10_putOrders, 6, (some .boolean))
abbrev m_X10_has : hv_M := (yX10_has, cX10_has, 3, (some .boolean))
abbrev m_X10_lostNow : hv_M := (yX10_lostNow, cX10_lostNow, 6, (some .int))
abbrev m_X10_ones : hv_M := (yX10_ones, cX10_ones, 4, (some .int))
abbrev m_X10_voices : hv_M := (yX10_voices, cX10_voices, 4, (some .long))
abbrev m_X10_findVoices : hv_M := (yX10_findVoices, cX10_findVoices, 3, none)
abbrev m_X10_unroll : hv_M := (yX10_unroll, cX10_unroll, 11, none)
abbrev m_X10_part : hv_M := (yX10_part, cX10_part, 8, (some .long))
abbrev m_X10_divisor : hv_M := (yX10_divisor, cX10_divisor, 11, (some .long))
abbrev m_X10_lost : hv_M := (yX10_lost, cX10_lost, 2, (some .int))
abbrev m_X10_decided : hv_M := (yX10_decided, cX10_decided, 2, (some .int))
abbrev m_X10_thinks : hv_M := (yX10_thinks, cX10_thinks, 4, (some .int))
abbrev m_X10_decides : hv_M := (yX10_decides, cX10_decides, 7, (some .boolean))
abbrev m_X10_turning : hv_M := (yX10_turning, cX10_turning, 4, (some .int))
abbrev m_X10_power : hv_M := (yX10_power, cX10_power, 6, (some .int))
abbrev m_X10_speaking : hv_M := (yX10_speaking, cX10_speaking, 3, (some .int))
abbrev m_X10_few : hv_M := (yX10_few, cX10_few, 4, (some .int))
abbrev m_X10_best : hv_M := (yX10_best, cX10_best, 3, (some .int))
abbrev m_X10_right : hv_M := (yX10_right, cX10_right, 4, (some .long))
abbrev m_X10_findAlone : hv_M := (yX10_findAlone, cX10_findAlone, 2, none)
abbrev m_X10_findRight : hv_M := (yX10_findRight, cX10_findRight, 7, none)
abbrev m_X10_surest : hv_M := (yX10_surest, cX10_surest, 4, (some .int))
abbrev m_X10_breach : hv_M := (yX10_breach, cX10_breach, 9, (some .int))
abbrev m_X10_keep : hv_M := (yX10_keep, cX10_keep, 4, none)
abbrev m_X10_putBack : hv_M := (yX10_putBack, cX10_putBack, 4, none)
abbrev m_X10_isLess : hv_M := (yX10_isLess, cX10_isLess, 13, (some .boolean))
abbrev m_X10_rather : hv_M := (yX10_rather, cX10_rather, 2, (some .int))
abbrev m_X10_ratherOf : hv_M := (yX10_ratherOf, cX10_ratherOf, 8, (some .int))
abbrev m_X10_settle : hv_M := (yX10_settle, cX10_settle, 5, (some .int))
abbrev m_X10_heap : hv_M := (yX10_heap, cX10_heap, 3, (some .long))
abbrev m_X10_heapOf : hv_M := (yX10_heapOf, cX10_heapOf, 4, (some .long))
abbrev m_X10_mend : hv_M := (yX10_mend, cX10_mend, 11, (some .int))
abbrev m_X10_asSelf : hv_M := (yX10_asSelf, cX10_asSelf, 4, none)
abbrev m_X10_asBefore : hv_M := (yX10_asBefore, cX10_asBefore, 3, none)
abbrev m_X10_late : hv_M := (yX10_late, cX10_late, 4, (some .int))
abbrev m_X10_fewest : hv_M := (yX10_fewest, cX10_fewest, 5, (some .int))
abbrev m_X10_table : hv_M := (yX10_table, cX10_table, 5, (some .int))
abbrev m_X10_isTape : hv_M := (yX10_isTape, cX10_isTape, 2, (some .boolean))
abbrev m_X10_act : hv_M := (yX10_act, cX10_act, 5, (some .int))
abbrev m_X10_gives : hv_M := (yX10_gives, cX10_gives, 5, (some .int))
abbrev m_X10_body : hv_M := (yX10_body, cX10_body, 2, none)
abbrev m_X10_giveGives : hv_M := (yX10_giveGives, cX10_giveGives, 3, (some .int))
abbrev m_X10_plainGives : hv_M := (yX10_plainGives, cX10_plainGives, 3, (some .int))
abbrev m_X10_holds : hv_M := (yX10_holds, cX10_holds, 6, (some .int))
abbrev m_X10_giveHolds : hv_M := (yX10_giveHolds, cX10_giveHolds, 4, (some .int))
abbrev m_X10_plainHolds : hv_M := (yX10_plainHolds, cX10_plainHolds, 4, (some .int))
abbrev m_X10_tells : hv_M := (yX10_tells, cX10_tells, 5, (some .int))
abbrev m_X10_plainTells : hv_M := (yX10_plainTells, cX10_plainTells, 4, (some .int))
abbrev m_X10_trace : hv_M := (yX10_trace, cX10_trace, 2, (some .int))
abbrev m_X10_taken : hv_M := (yX10_taken, cX10_taken, 5, (some .int))
abbrev m_X10_count : hv_M := (yX10_count, cX10_count, 2, (some .int))
abbrev m_X10_tape : hv_M := (yX10_tape, cX10_tape, 5, (some .int))
abbrev m_X10_item : hv_M := (yX10_item, cX10_item, 5, (some .int))
abbrev m_X10_narrow : hv_M := (yX10_narrow, cX10_narrow, 4, (some .long))
abbrev m_X10_read : hv_M := (yX10_read, cX10_read, 3, (some .long))
abbrev m_X10_shift : hv_M := (yX10_shift, cX10_shift, 7, (some .int))
abbrev m_L_law : hv_M := (yL_law, cL_law, 4, (some .boolean))
theorem hv_in {w : Cond} (i : Nat) (h : lw_tbl[i]? = some w) (g : goodWord w = true) : w ∈ hv_all := List.mem_filter.mpr ⟨List.mem_of_getElem? h, g⟩
theorem hv_inN {w : Cond} (i : Nat) (h : tables_1[i]? = some w) (g : hv_isN w = true) : w ∈ hv_nst := List.mem_filter.mpr ⟨List.mem_of_getElem? h, g⟩
theorem hv_usX0 : ∀ w ∈ u_ws RX0 TX0 5, w ∈ hv_all := by decide +kernel
theorem hv_usX1 : ∀ w ∈ u_ws RX1 TX1 6, w ∈ hv_all := by decide +kernel
theorem hv_usX2 : ∀ w ∈ u_ws RX2 TX2 9, w ∈ hv_all := by decide +kernel
theorem hv_usX3 : ∀ w ∈ u_ws RX3 TX3 5, w ∈ hv_all := by decide +kernel
theorem hv_usX4 : ∀ w ∈ u_ws RX4 TX4 6, w ∈ hv_all := by decide +kernel
theorem hv_usX5 : ∀ w ∈ u_ws RX5 TX5 11, w ∈ hv_all := by decide +kernel
theorem hv_usX6 : ∀ w ∈ u_ws RX6 TX6 10, w ∈ hv_all := by decide +kernel
theorem hv_usX7 : ∀ w ∈ u_ws RX7 TX7 3, w ∈ hv_all := by decide +kernel
theorem hv_usX8 : ∀ w ∈ u_ws RX8 TX8 5, w ∈ hv_all := by decide +kernel
theorem hv_usX9 : ∀ w ∈ u_ws RX9 TX9 8, w ∈ hv_all := by decide +kernel
theorem hv_usX10 : ∀ w ∈ u_ws RX10 TX10 52, w ∈ hv_all := by decide +kernel
theorem fl_X2_9 : hv_FL RX2 9 2 0 := ⟨RX2, TX2, 9, tyX2, rfl, by decide, hv_usX2, rfl, tyX2_ok, nmX2, (Or.inl (hv_in 163 (by decide +kernel) (by decide +kernel)))⟩
theorem fl_X8_108 : hv_FL RX8 108 2 0 := ⟨RX2, TX2, 9, tyX2, rfl, by decide, hv_usX2, rfl, tyX2_ok, nmX2, (Or.inr ⟨"HandedVoices", (hv_inN 38 (by decide +kernel) rfl)⟩)⟩
theorem fl_X9_183 : hv_FL RX9 183 2 0 := ⟨RX2, TX2, 9, tyX2, rfl, by decide, hv_usX2, rfl, tyX2_ok, nmX2, (Or.inr ⟨"HandedVoices", (hv_inN 39 (by decide +kernel) rfl)⟩)⟩
theorem fl_X2_15 : hv_FL RX2 15 2 1 := ⟨RX2, TX2, 9, tyX2, rfl, by decide, hv_usX2, rfl, tyX2_ok, nmX2, (Or.inl (hv_in 166 (by decide +kernel) (by decide +kernel)))⟩
theorem fl_X9_90 : hv_FL RX9 90 2 1 := ⟨RX2, TX2, 9, tyX2, rfl, by decide, hv_usX2, rfl, tyX2_ok, nmX2, (Or.inr ⟨"HandedVoices", (hv_inN 41 (by decide +kernel) rfl)⟩)⟩
theorem fl_X3_47 : hv_FL RX3 47 2 1 := ⟨RX2, TX2, 9, tyX2, rfl, by decide, hv_usX2, rfl, tyX2_ok, nmX2, (Or.inr ⟨"HandedVoices", (hv_inN 42 (by decide +kernel) rfl)⟩)⟩
theorem fl_X6_138 : hv_FL RX6 138 2 1 := ⟨RX2, TX2, 9, tyX2, rfl, by decide, hv_usX2, rfl, tyX2_ok, nmX2, (Or.inr ⟨"HandedVoices", (hv_inN 43 (by decide +kernel) rfl)⟩)⟩
theorem fl_X2_18 : hv_FL RX2 18 2 2 := ⟨RX2, TX2, 9, tyX2, rfl, by decide, hv_usX2, rfl, tyX2_ok, nmX2, (Or.inl (hv_in 170 (by decide +kernel) (by decide +kernel)))⟩
theorem fl_X5_72 : hv_FL RX5 72 2 2 := ⟨RX2, TX2, 9, tyX2, rfl, by decide, hv_usX2, rfl, tyX2_ok, nmX2, (Or.inr ⟨"HandedVoices", (hv_inN 45 (by decide +kernel) rfl)⟩)⟩
theorem fl_X9_115 : hv_FL RX9 115 2 2 := ⟨RX2, TX2, 9, tyX2, rfl, by decide, hv_usX2, rfl, tyX2_ok, nmX2, (Or.inr ⟨"HandedVoices", (hv_inN 46 (by decide +kernel) rfl)⟩)⟩
theorem fl_X2_21 : hv_FL RX2 21 2 3 := ⟨RX2, TX2, 9, tyX2, rfl, by decide, hv_usX2, rfl, tyX2_ok, nmX2, (Or.inl (hv_in 173 (by decide +kernel) (by decide +kernel)))⟩
theorem fl_X9_109 : hv_FL RX9 109 2 3 := ⟨RX2, TX2, 9, tyX2, rfl, by decide, hv_usX2, rfl, tyX2_ok, nmX2, (Or.inr ⟨"HandedVoices", (hv_inN 48 (by decide +kernel) rfl)⟩)⟩
theorem fl_X2_24 : hv_FL RX2 24 2 4 := ⟨RX2, TX2, 9, tyX2, rfl, by decide, hv_usX2, rfl, tyX2_ok, nmX2, (Or.inl (hv_in 175 (by decide +kernel) (by decide +kernel)))⟩
theorem fl_X5_87 : hv_FL RX5 87 2 4 := ⟨RX2, TX2, 9, tyX2, rfl, by decide, hv_usX2, rfl, tyX2_ok, nmX2, (Or.inr ⟨"HandedVoices", (hv_inN 50 (by decide +kernel) rfl)⟩)⟩
theorem fl_X9_118 : hv_FL RX9 118 2 4 := ⟨RX2, TX2, 9, tyX2, rfl, by decide, hv_usX2, rfl, tyX2_ok, nmX2, (Or.inr ⟨"HandedVoices", (hv_inN 51 (by decide +kernel) rfl)⟩)⟩
theorem fl_X2_27 : hv_FL RX2 27 2 5 := ⟨RX2, TX2, 9, tyX2, rfl, by decide, hv_usX2, rfl, tyX2_ok, nmX2, (Or.inl (hv_in 178 (by decide +kernel) (by decide +kernel)))⟩
theorem fl_X5_91 : hv_FL RX5 91 2 5 := ⟨RX2, TX2, 9, tyX2, rfl, by decide, hv_usX2, rfl, tyX2_ok, nmX2, (Or.inr ⟨"HandedVoices", (hv_inN 53 (by decide +kernel) rfl)⟩)⟩
theorem fl_X9_121 : hv_FL RX9 121 2 5 := ⟨RX2, TX2, 9, tyX2, rfl, by decide, hv_usX2, rfl, tyX2_ok, nmX2, (Or.inr ⟨"HandedVoices", (hv_inN 54 (by decide +kernel) rfl)⟩)⟩
theorem fl_X2_30 : hv_FL RX2 30 2 6 := ⟨RX2, TX2, 9, tyX2, rfl, by decide, hv_usX2, rfl, tyX2_ok, nmX2, (Or.inl (hv_in 181 (by decide +kernel) (by decide +kernel)))⟩
theorem fl_X5_90 : hv_FL RX5 90 2 6 := ⟨RX2, TX2, 9, tyX2, rfl, by decide, hv_usX2, rfl, tyX2_ok, nmX2, (Or.inr ⟨"HandedVoices", (hv_inN 56 (by decide +kernel) rfl)⟩)⟩
theorem fl_X9_124 : hv_FL RX9 124 2 6 := ⟨RX2, TX2, 9, tyX2, rfl, by decide, hv_usX2, rfl, tyX2_ok, nmX2, (Or.inr ⟨"HandedVoices", (hv_inN 57 (by decide +kernel) rfl)⟩)⟩
theorem fl_X9_75 : hv_FL RX9 75 2 7 := ⟨RX2, TX2, 9, tyX2, rfl, by decide, hv_usX2, rfl, tyX2_ok, nmX2, (Or.inr ⟨"HandedVoices", (hv_inN 58 (by decide +kernel) rfl)⟩)⟩
theorem fl_X2_39 : hv_FL RX2 39 2 7 := ⟨RX2, TX2, 9, tyX2, rfl, by decide, hv_usX2, rfl, tyX2_ok, nmX2, (Or.inl (hv_in 185 (by decide +kernel) (by decide +kernel)))⟩
theorem fl_X8_47 : hv_FL RX8 47 2 7 := ⟨RX2, TX2, 9, tyX2, rfl, by decide, hv_usX2, rfl, tyX2_ok, nmX2, (Or.inr ⟨"HandedVoices", (hv_inN 60 (by decide +kernel) rfl)⟩)⟩
theorem fl_X5_40 : hv_FL RX5 40 2 7 := ⟨RX2, TX2, 9, tyX2, rfl, by decide, hv_usX2, rfl, tyX2_ok, nmX2, (Or.inr ⟨"HandedVoices", (hv_inN 61 (by decide +kernel) rfl)⟩)⟩
theorem fl_X6_109 : hv_FL RX6 109 2 7 := ⟨RX2, TX2, 9, tyX2, rfl, by decide, hv_usX2, rfl, tyX2_ok, nmX2, (Or.inr ⟨"HandedVoices", (hv_inN 62 (by decide +kernel) rfl)⟩)⟩
theorem fl_X6_46 : hv_FL RX6 46 2 8 := ⟨RX2, TX2, 9, tyX2, rfl, by decide, hv_usX2, rfl, tyX2_ok, nmX2, (Or.inr ⟨"HandedVoices", (hv_inN 63 (by decide +kernel) rfl)⟩)⟩
theorem fl_X8_31 : hv_FL RX8 31 2 8 := ⟨RX2, TX2, 9, tyX2, rfl, by decide, hv_usX2, rfl, tyX2_ok, nmX2, (Or.inr ⟨"HandedVoices", (hv_inN 64 (by decide +kernel) rfl)⟩)⟩
theorem fl_X9_112 : hv_FL RX9 112 2 8 := ⟨RX2, TX2, 9, tyX2, rfl, by decide, hv_usX2, rfl, tyX2_ok, nmX2, (Or.inr ⟨"HandedVoices", (hv_inN 65 (by decide +kernel) rfl)⟩)⟩
theorem fl_X4_9 : hv_FL RX4 9 4 0 := ⟨RX4, TX4, 6, tyX4, rfl, by decide, hv_usX4, rfl, tyX4_ok, nmX4, (Or.inl (hv_in 228 (by decide +kernel) (by decide +kernel)))⟩
theorem fl_X4_18 : hv_FL RX4 18 4 1 := ⟨RX4, TX4, 6, tyX4, rfl, by decide, hv_usX4, rfl, tyX4_ok, nmX4, (Or.inl (hv_in 229 (by decide +kernel) (by decide +kernel)))⟩
theorem fl_X3_41 : hv_FL RX3 41 4 1 := ⟨RX4, TX4, 6, tyX4, rfl, by decide, hv_usX4, rfl, tyX4_ok, nmX4, (Or.inr ⟨"HandedVoices", (hv_inN 104 (by decide +kernel) rfl)⟩)⟩
theorem fl_X4_22 : hv_FL RX4 22 4 2 := ⟨RX4, TX4, 6, tyX4, rfl, by decide, hv_usX4, rfl, tyX4_ok, nmX4, (Or.inl (hv_in 231 (by decide +kernel) (by decide +kernel)))⟩
theorem fl_X6_95 : hv_FL RX6 95 4 2 := ⟨RX4, TX4, 6, tyX4, rfl, by decide, hv_usX4, rfl, tyX4_ok, nmX4, (Or.inr ⟨"HandedVoices", (hv_inN 106 (by decide +kernel) rfl)⟩)⟩
theorem fl_X1_56 : hv_FL RX1 56 4 2 := ⟨RX4, TX4, 6, tyX4, rfl, by decide, hv_usX4, rfl, tyX4_ok, nmX4, (Or.inr ⟨"HandedVoices", (hv_inN 107 (by decide +kernel) rfl)⟩)⟩
theorem fl_X4_25 : hv_FL RX4 25 4 3 := ⟨RX4, TX4, 6, tyX4, rfl, by decide, hv_usX4, rfl, tyX4_ok, nmX4, (Or.inl (hv_in 234 (by decide +kernel) (by decide +kernel)))⟩
theorem fl_X1_78 : hv_FL RX1 78 4 3 := ⟨RX4, TX4, 6, tyX4, rfl, by decide, hv_usX4, rfl, tyX4_ok, nmX4, (Or.inr ⟨"HandedVoices", (hv_inN 109 (by decide +kernel) rfl)⟩)⟩
theorem fl_X6_121 : hv_FL RX6 121 4 3 := ⟨RX4, TX4, 6, tyX4, rfl, by decide, hv_usX4, rfl, tyX4_ok, nmX4, (Or.inr ⟨"HandedVoices", (hv_inN 110 (by decide +kernel) rfl)⟩)⟩
theorem fl_X4_28 : hv_FL RX4 28 4 4 := ⟨RX4, TX4, 6, tyX4, rfl, by decide, hv_usX4, rfl, tyX4_ok, nmX4, (Or.inl (hv_in 237 (by decide +kernel) (by decide +kernel)))⟩
theorem fl_X1_86 : hv_FL RX1 86 4 4 := ⟨RX4, TX4, 6, tyX4, rfl, by decide, hv_usX4, rfl, tyX4_ok, nmX4, (Or.inr ⟨"HandedVoices", (hv_inN 112 (by decide +kernel) rfl)⟩)⟩
theorem fl_X6_118 : hv_FL RX6 118 4 4 := ⟨RX4, TX4, 6, tyX4, rfl, by decide, hv_usX4, rfl, tyX4_ok, nmX4, (Or.inr ⟨"HandedVoices", (hv_inN 113 (by decide +kernel) rfl)⟩)⟩
theorem fl_X4_31 : hv_FL RX4 31 4 5 := ⟨RX4, TX4, 6, tyX4, rfl, by decide, hv_usX4, rfl, tyX4_ok, nmX4, (Or.inl (hv_in 240 (by decide +kernel) (by decide +kernel)))⟩
theorem fl_X5_98 : hv_FL RX5 98 4 5 := ⟨RX4, TX4, 6, tyX4, rfl, by decide, hv_usX4, rfl, tyX4_ok, nmX4, (Or.inr ⟨"HandedVoices", (hv_inN 115 (by decide +kernel) rfl)⟩)⟩
theorem fl_X1_89 : hv_FL RX1 89 4 5 := ⟨RX4, TX4, 6, tyX4, rfl, by decide, hv_usX4, rfl, tyX4_ok, nmX4, (Or.inr ⟨"HandedVoices", (hv_inN 116 (by decide +kernel) rfl)⟩)⟩
theorem fl_X1_9 : hv_FL RX1 9 1 0 := ⟨RX1, TX1, 6, tyX1, rfl, by decide, hv_usX1, rfl, tyX1_ok, nmX1, (Or.inl (hv_in 256 (by decide +kernel) (by decide +kernel)))⟩
theorem fl_X1_20 : hv_FL RX1 20 1 1 := ⟨RX1, TX1, 6, tyX1, rfl, by decide, hv_usX1, rfl, tyX1_ok, nmX1, (Or.inl (hv_in 257 (by decide +kernel) (by decide +kernel)))⟩
theorem fl_X9_127 : hv_FL RX9 127 1 1 := ⟨RX1, TX1, 6, tyX1, rfl, by decide, hv_usX1, rfl, tyX1_ok, nmX1, (Or.inr ⟨"HandedVoices", (hv_inN 132 (by decide +kernel) rfl)⟩)⟩
theorem fl_X1_24 : hv_FL RX1 24 1 2 := ⟨RX1, TX1, 6, tyX1, rfl, by decide, hv_usX1, rfl, tyX1_ok, nmX1, (Or.inl (hv_in 259 (by decide +kernel) (by decide +kernel)))⟩
theorem fl_X1_53 : hv_FL RX1 53 1 3 := ⟨RX1, TX1, 6, tyX1, rfl, by decide, hv_usX1, rfl, tyX1_ok, nmX1, (Or.inl (hv_in 260 (by decide +kernel) (by decide +kernel)))⟩
theorem fl_X1_83 : hv_FL RX1 83 1 4 := ⟨RX1, TX1, 6, tyX1, rfl, by decide, hv_usX1, rfl, tyX1_ok, nmX1, (Or.inl (hv_in 261 (by decide +kernel) (by decide +kernel)))⟩
theorem fl_X1_16 : hv_FL RX1 16 1 5 := ⟨RX1, TX1, 6, tyX1, rfl, by decide, hv_usX1, rfl, tyX1_ok, nmX1, (Or.inl (hv_in 262 (by decide +kernel) (by decide +kernel)))⟩
theorem fl_X9_137 : hv_FL RX9 137 1 5 := ⟨RX1, TX1, 6, tyX1, rfl, by decide, hv_usX1, rfl, tyX1_ok, nmX1, (Or.inr ⟨"HandedVoices", (hv_inN 137 (by decide +kernel) rfl)⟩)⟩
theorem fl_X3_25 : hv_FL RX3 25 3 0 := ⟨RX3, TX3, 5, tyX3, rfl, by decide, hv_usX3, rfl, tyX3_ok, nmX3, (Or.inl (hv_in 285 (by decide +kernel) (by decide +kernel)))⟩
theorem fl_X3_9 : hv_FL RX3 9 3 1 := ⟨RX3, TX3, 5, tyX3, rfl, by decide, hv_usX3, rfl, tyX3_ok, nmX3, (Or.inl (hv_in 286 (by decide +kernel) (by decide +kernel)))⟩
theorem fl_X5_78 : hv_FL RX5 78 3 1 := ⟨RX3, TX3, 5, tyX3, rfl, by decide, hv_usX3, rfl, tyX3_ok, nmX3, (Or.inr ⟨"HandedVoices", (hv_inN 161 (by decide +kernel) rfl)⟩)⟩
theorem fl_X3_17 : hv_FL RX3 17 3 2 := ⟨RX3, TX3, 5, tyX3, rfl, by decide, hv_usX3, rfl, tyX3_ok, nmX3, (Or.inl (hv_in 288 (by decide +kernel) (by decide +kernel)))⟩
theorem fl_X3_21 : hv_FL RX3 21 3 3 := ⟨RX3, TX3, 5, tyX3, rfl, by decide, hv_usX3, rfl, tyX3_ok, nmX3, (Or.inl (hv_in 289 (by decide +kernel) (by decide +kernel)))⟩
theorem fl_X6_89 : hv_FL RX6 89 3 3 := ⟨RX3, TX3, 5, tyX3, rfl, by decide, hv_usX3, rfl, tyX3_ok, nmX3, (Or.inr ⟨"HandedVoices", (hv_inN 164 (by decide +kernel) rfl)⟩)⟩
theorem fl_X5_94 : hv_FL RX5 94 3 3 := ⟨RX3, TX3, 5, tyX3, rfl, by decide, hv_usX3, rfl, tyX3_ok, nmX3, (Or.inr ⟨"HandedVoices", (hv_inN 165 (by decide +kernel) rfl)⟩)⟩
theorem fl_X3_29 : hv_FL RX3 29 3 4 := ⟨RX3, TX3, 5, tyX3, rfl, by decide, hv_usX3, rfl, tyX3_ok, nmX3, (Or.inl (hv_in 292 (by decide +kernel) (by decide +kernel)))⟩
theorem fl_X9_145 : hv_FL RX9 145 3 4 := ⟨RX3, TX3, 5, tyX3, rfl, by decide, hv_usX3, rfl, tyX3_ok, nmX3, (Or.inr ⟨"HandedVoices", (hv_inN 167 (by decide +kernel) rfl)⟩)⟩
theorem fl_X5_18 : hv_FL RX5 18 5 0 := ⟨RX5, TX5, 11, tyX5, rfl, by decide, hv_usX5, rfl, tyX5_ok, nmX5, (Or.inl (hv_in 311 (by decide +kernel) (by decide +kernel)))⟩
theorem fl_X5_22 : hv_FL RX5 22 5 1 := ⟨RX5, TX5, 11, tyX5, rfl, by decide, hv_usX5, rfl, tyX5_ok, nmX5, (Or.inl (hv_in 312 (by decide +kernel) (by decide +kernel)))⟩
theorem fl_X5_9 : hv_FL RX5 9 5 2 := ⟨RX5, TX5, 11, tyX5, rfl, by decide, hv_usX5, rfl, tyX5_ok, nmX5, (Or.inl (hv_in 313 (by decide +kernel) (by decide +kernel)))⟩
theorem fl_X8_53 : hv_FL RX8 53 5 2 := ⟨RX5, TX5, 11, tyX5, rfl, by decide, hv_usX5, rfl, tyX5_ok, nmX5, (Or.inr ⟨"HandedVoices", (hv_inN 188 (by decide +kernel) rfl)⟩)⟩
theorem fl_X6_100 : hv_FL RX6 100 5 2 := ⟨RX5, TX5, 11, tyX5, rfl, by decide, hv_usX5, rfl, tyX5_ok, nmX5, (Or.inr ⟨"HandedVoices", (hv_inN 189 (by decide +kernel) rfl)⟩)⟩
theorem fl_X9_156 : hv_FL RX9 156 5 2 := ⟨RX5, TX5, 11, tyX5, rfl, by decide, hv_usX5, rfl, tyX5_ok, nmX5, (Or.inr ⟨"HandedVoices", (hv_inN 190 (by decide +kernel) rfl)⟩)⟩
theorem fl_X5_15 : hv_FL RX5 15 5 3 := ⟨RX5, TX5, 11, tyX5, rfl, by decide, hv_usX5, rfl, tyX5_ok, nmX5, (Or.inl (hv_in 317 (by decide +kernel) (by decide +kernel)))⟩
theorem fl_X5_48 : hv_FL RX5 48 5 4 := ⟨RX5, TX5, 11, tyX5, rfl, by decide, hv_usX5, rfl, tyX5_ok, nmX5, (Or.inl (hv_in 318 (by decide +kernel) (by decide +kernel)))⟩
theorem fl_X5_51 : hv_FL RX5 51 5 5 := ⟨RX5, TX5, 11, tyX5, rfl, by decide, hv_usX5, rfl, tyX5_ok, nmX5, (Or.inl (hv_in 319 (by decide +kernel) (by decide +kernel)))⟩
theorem fl_X9_206 : hv_FL RX9 206 5 5 := ⟨RX5, TX5, 11, tyX5, rfl, by decide, hv_usX5, rfl, tyX5_ok, nmX5, (Or.inr ⟨"HandedVoices", (hv_inN 194 (by decide +kernel) rfl)⟩)⟩
theorem fl_X5_45 : hv_FL RX5 45 5 6 := ⟨RX5, TX5, 11, tyX5, rfl, by decide, hv_usX5, rfl, tyX5_ok, nmX5, (Or.inl (hv_in 321 (by decide +kernel) (by decide +kernel)))⟩
theorem fl_X9_177 : hv_FL RX9 177 5 6 := ⟨RX5, TX5, 11, tyX5, rfl, by decide, hv_usX5, rfl, tyX5_ok, nmX5, (Or.inr ⟨"HandedVoices", (hv_inN 196 (by decide +kernel) rfl)⟩)⟩
theorem fl_X5_37 : hv_FL RX5 37 5 7 := ⟨RX5, TX5, 11, tyX5, rfl, by decide, hv_usX5, rfl, tyX5_ok, nmX5, (Or.inl (hv_in 323 (by decide +kernel) (by decide +kernel)))⟩
theorem fl_X5_33 : hv_FL RX5 33 5 8 := ⟨RX5, TX5, 11, tyX5, rfl, by decide, hv_usX5, rfl, tyX5_ok, nmX5, (Or.inl (hv_in 324 (by decide +kernel) (by decide +kernel)))⟩
theorem fl_X5_118 : hv_FL RX5 118 5 9 := ⟨RX5, TX5, 11, tyX5, rfl, by decide, hv_usX5, rfl, tyX5_ok, nmX5, (Or.inl (hv_in 325 (by decide +kernel) (by decide +kernel)))⟩
theorem fl_X9_213 : hv_FL RX9 213 5 9 := ⟨RX5, TX5, 11, tyX5, rfl, by decide, hv_usX5, rfl, tyX5_ok, nmX5, (Or.inr ⟨"HandedVoices", (hv_inN 200 (by decide +kernel) rfl)⟩)⟩
theorem fl_X5_108 : hv_FL RX5 108 5 10 := ⟨RX5, TX5, 11, tyX5, rfl, by decide, hv_usX5, rfl, tyX5_ok, nmX5, (Or.inl (hv_in 327 (by decide +kernel) (by decide +kernel)))⟩
theorem fl_X9_216 : hv_FL RX9 216 5 10 := ⟨RX5, TX5, 11, tyX5, rfl, by decide, hv_usX5, rfl, tyX5_ok, nmX5, (Or.inr ⟨"HandedVoices", (hv_inN 202 (by decide +kernel) rfl)⟩)⟩
theorem fl_X6_34 : hv_FL RX6 34 6 0 := ⟨RX6, TX6, 10, tyX6, rfl, by decide, hv_usX6, rfl, tyX6_ok, nmX6, (Or.inl (hv_in 360 (by decide +kernel) (by decide +kernel)))⟩
theorem fl_X6_38 : hv_FL RX6 38 6 1 := ⟨RX6, TX6, 10, tyX6, rfl, by decide, hv_usX6, rfl, tyX6_ok, nmX6, (Or.inl (hv_in 361 (by decide +kernel) (by decide +kernel)))⟩
theorem fl_X6_42 : hv_FL RX6 42 6 2 := ⟨RX6, TX6, 10, tyX6, rfl, by decide, hv_usX6, rfl, tyX6_ok, nmX6, (Or.inl (hv_in 362 (by decide +kernel) (by decide +kernel)))⟩
theorem fl_X6_9 : hv_FL RX6 9 6 3 := ⟨RX6, TX6, 10, tyX6, rfl, by decide, hv_usX6, rfl, tyX6_ok, nmX6, (Or.inl (hv_in 363 (by decide +kernel) (by decide +kernel)))⟩
theorem fl_X6_17 : hv_FL RX6 17 6 4 := ⟨RX6, TX6, 10, tyX6, rfl, by decide, hv_usX6, rfl, tyX6_ok, nmX6, (Or.inl (hv_in 364 (by decide +kernel) (by decide +kernel)))⟩
theorem fl_X6_20 : hv_FL RX6 20 6 5 := ⟨RX6, TX6, 10, tyX6, rfl, by decide, hv_usX6, rfl, tyX6_ok, nmX6, (Or.inl (hv_in 365 (by decide +kernel) (by decide +kernel)))⟩
theorem fl_X8_50 : hv_FL RX8 50 6 5 := ⟨RX6, TX6, 10, tyX6, rfl, by decide, hv_usX6, rfl, tyX6_ok, nmX6, (Or.inr ⟨"HandedVoices", (hv_inN 240 (by decide +kernel) rfl)⟩)⟩
theorem fl_X9_165 : hv_FL RX9 165 6 5 := ⟨RX6, TX6, 10, tyX6, rfl, by decide, hv_usX6, rfl, tyX6_ok, nmX6, (Or.inr ⟨"HandedVoices", (hv_inN 241 (by decide +kernel) rfl)⟩)⟩
theorem fl_X6_24 : hv_FL RX6 24 6 6 := ⟨RX6, TX6, 10, tyX6, rfl, by decide, hv_usX6, rfl, tyX6_ok, nmX6, (Or.inl (hv_in 368 (by decide +kernel) (by decide +kernel)))⟩
theorem fl_X8_43 : hv_FL RX8 43 6 6 := ⟨RX6, TX6, 10, tyX6, rfl, by decide, hv_usX6, rfl, tyX6_ok, nmX6, (Or.inr ⟨"HandedVoices", (hv_inN 243 (by decide +kernel) rfl)⟩)⟩
theorem fl_X9_169 : hv_FL RX9 169 6 6 := ⟨RX6, TX6, 10, tyX6, rfl, by decide, hv_usX6, rfl, tyX6_ok, nmX6, (Or.inr ⟨"HandedVoices", (hv_inN 244 (by decide +kernel) rfl)⟩)⟩
theorem fl_X6_70 : hv_FL RX6 70 6 7 := ⟨RX6, TX6, 10, tyX6, rfl, by decide, hv_usX6, rfl, tyX6_ok, nmX6, (Or.inl (hv_in 371 (by decide +kernel) (by decide +kernel)))⟩
theorem fl_X6_28 : hv_FL RX6 28 6 8 := ⟨RX6, TX6, 10, tyX6, rfl, by decide, hv_usX6, rfl, tyX6_ok, nmX6, (Or.inl (hv_in 372 (by decide +kernel) (by decide +kernel)))⟩
theorem fl_X6_31 : hv_FL RX6 31 6 9 := ⟨RX6, TX6, 10, tyX6, rfl, by decide, hv_usX6, rfl, tyX6_ok, nmX6, (Or.inl (hv_in 373 (by decide +kernel) (by decide +kernel)))⟩
theorem fl_X8_15 : hv_FL RX8 15 8 0 := ⟨RX8, TX8, 5, tyX8, rfl, by decide, hv_usX8, rfl, tyX8_ok, nmX8, (Or.inl (hv_in 402 (by decide +kernel) (by decide +kernel)))⟩
theorem fl_X8_19 : hv_FL RX8 19 8 1 := ⟨RX8, TX8, 5, tyX8, rfl, by decide, hv_usX8, rfl, tyX8_ok, nmX8, (Or.inl (hv_in 403 (by decide +kernel) (by decide +kernel)))⟩
theorem fl_X8_23 : hv_FL RX8 23 8 2 := ⟨RX8, TX8, 5, tyX8, rfl, by decide, hv_usX8, rfl, tyX8_ok, nmX8, (Or.inl (hv_in 404 (by decide +kernel) (by decide +kernel)))⟩
theorem fl_X8_27 : hv_FL RX8 27 8 3 := ⟨RX8, TX8, 5, tyX8, rfl, by decide, hv_usX8, rfl, tyX8_ok, nmX8, (Or.inl (hv_in 405 (by decide +kernel) (by decide +kernel)))⟩
theorem fl_X8_9 : hv_FL RX8 9 8 4 := ⟨RX8, TX8, 5, tyX8, rfl, by decide, hv_usX8, rfl, tyX8_ok, nmX8, (Or.inl (hv_in 406 (by decide +kernel) (by decide +kernel)))⟩
theorem fl_X0_11 : hv_FL RX0 11 0 0 := ⟨RX0, TX0, 5, tyX0, rfl, by decide, hv_usX0, rfl, tyX0_ok, nmX0, (Or.inl (hv_in 424 (by decide +kernel) (by decide +kernel)))⟩
theorem fl_X9_270 : hv_FL RX9 270 0 0 := ⟨RX0, TX0, 5, tyX0, rfl, by decide, hv_usX0, rfl, tyX0_ok, nmX0, (Or.inr ⟨"HandedVoices", (hv_inN 299 (by decide +kernel) rfl)⟩)⟩
theorem fl_X0_15 : hv_FL RX0 15 0 1 := ⟨RX0, TX0, 5, tyX0, rfl, by decide, hv_usX0, rfl, tyX0_ok, nmX0, (Or.inl (hv_in 426 (by decide +kernel) (by decide +kernel)))⟩
theorem fl_X9_273 : hv_FL RX9 273 0 1 := ⟨RX0, TX0, 5, tyX0, rfl, by decide, hv_usX0, rfl, tyX0_ok, nmX0, (Or.inr ⟨"HandedVoices", (hv_inN 301 (by decide +kernel) rfl)⟩)⟩
theorem fl_X0_25 : hv_FL RX0 25 0 2 := ⟨RX0, TX0, 5, tyX0, rfl, by decide, hv_usX0, rfl, tyX0_ok, nmX0, (Or.inl (hv_in 428 (by decide +kernel) (by decide +kernel)))⟩
theorem fl_X0_28 : hv_FL RX0 28 0 3 := ⟨RX0, TX0, 5, tyX0, rfl, by decide, hv_usX0, rfl, tyX0_ok, nmX0, (Or.inl (hv_in 429 (by decide +kernel) (by decide +kernel)))⟩
theorem fl_X0_31 : hv_FL RX0 31 0 4 := ⟨RX0, TX0, 5, tyX0, rfl, by decide, hv_usX0, rfl, tyX0_ok, nmX0, (Or.inl (hv_in 430 (by decide +kernel) (by decide +kernel)))⟩
theorem fl_X7_9 : hv_FL RX7 9 7 0 := ⟨RX7, TX7, 3, tyX7, rfl, by decide, hv_usX7, rfl, tyX7_ok, nmX7, (Or.inl (hv_in 449 (by decide +kernel) (by decide +kernel)))⟩
theorem fl_X9_251 : hv_FL RX9 251 7 0 := ⟨RX7, TX7, 3, tyX7, rfl, by decide, hv_usX7, rfl, tyX7_ok, nmX7, (Or.inr ⟨"HandedVoices", (hv_inN 324 (by decide +kernel) rfl)⟩)⟩
theorem fl_X7_13 : hv_FL RX7 13 7 1 := ⟨RX7, TX7, 3, tyX7, rfl, by decide, hv_usX7, rfl, tyX7_ok, nmX7, (Or.inl (hv_in 451 (by decide +kernel) (by decide +kernel)))⟩
theorem fl_X9_254 : hv_FL RX9 254 7 1 := ⟨RX7, TX7, 3, tyX7, rfl, by decide, hv_usX7, rfl, tyX7_ok, nmX7, (Or.inr ⟨"HandedVoices", (hv_inN 326 (by decide +kernel) rfl)⟩)⟩
theorem fl_X7_16 : hv_FL RX7 16 7 2 := ⟨RX7, TX7, 3, tyX7, rfl, by decide, hv_usX7, rfl, tyX7_ok, nmX7, (Or.inl (hv_in 453 (by decide +kernel) (by decide +kernel)))⟩
theorem fl_X9_14 : hv_FL RX9 14 9 0 := ⟨RX9, TX9, 8, tyX9, rfl, by decide, hv_usX9, rfl, tyX9_ok, nmX9, (Or.inl (hv_in 461 (by decide +kernel) (by decide +kernel)))⟩
theorem fl_X9_21 : hv_FL RX9 21 9 1 := ⟨RX9, TX9, 8, tyX9, rfl, by decide, hv_usX9, rfl, tyX9_ok, nmX9, (Or.inl (hv_in 462 (by decide +kernel) (by decide +kernel)))⟩
theorem fl_X9_30 : hv_FL RX9 30 9 2 := ⟨RX9, TX9, 8, tyX9, rfl, by decide, hv_usX9, rfl, tyX9_ok, nmX9, (Or.inl (hv_in 463 (by decide +kernel) (by decide +kernel)))⟩
theorem fl_X9_39 : hv_FL RX9 39 9 3 := ⟨RX9, TX9, 8, tyX9, rfl, by decide, hv_usX9, rfl, tyX9_ok, nmX9, (Or.inl (hv_in 464 (by decide +kernel) (by decide +kernel)))⟩
theorem fl_X9_48 : hv_FL RX9 48 9 4 := ⟨RX9, TX9, 8, tyX9, rfl, by decide, hv_usX9, rfl, tyX9_ok, nmX9, (Or.inl (hv_in 465 (by decide +kernel) (by decide +kernel)))⟩
theorem fl_X9_57 : hv_FL RX9 57 9 5 := ⟨RX9, TX9, 8, tyX9, rfl, by decide, hv_usX9, rfl, tyX9_ok, nmX9, (Or.inl (hv_in 466 (by decide +kernel) (by decide +kernel)))⟩
theorem fl_X9_64 : hv_FL RX9 64 9 6 := ⟨RX9, TX9, 8, tyX9, rfl, by decide, hv_usX9, rfl, tyX9_ok, nmX9, (Or.inl (hv_in 467 (by decide +kernel) (by decide +kernel)))⟩
theorem fl_X9_71 : hv_FL RX9 71 9 7 := ⟨RX9, TX9, 8, tyX9, rfl, by decide, hv_usX9, rfl, tyX9_ok, nmX9, (Or.inl (hv_in 468 (by decide +kernel) (by decide +kernel)))⟩
theorem fl_X10_7 : hv_FL RX10 7 10 0 := ⟨RX10, TX10, 52, tyX10, rfl, by decide, hv_usX10, rfl, tyX10_ok, nmX10, (Or.inl (hv_in 1056 (by decide +kernel) (by decide +kernel)))⟩
theorem fl_X10_13 : hv_FL RX10 13 10 1 := ⟨RX10, TX10, 52, tyX10, rfl, by decide, hv_usX10, rfl, tyX10_ok, nmX10, (Or.inl (hv_in 1057 (by decide +kernel) (by decide +kernel)))⟩
theorem fl_X10_16 : hv_FL RX10 16 10 2 := ⟨RX10, TX10, 52, tyX10, rfl, by decide, hv_usX10, rfl, tyX10_ok, nmX10, (Or.inl (hv_in 1058 (by decide +kernel) (by decide +kernel)))⟩
theorem fl_X10_20 : hv_FL RX10 20 10 3 := ⟨RX10, TX10, 52, tyX10, rfl, by decide, hv_usX10, rfl, tyX10_ok, nmX10, (Or.inl (hv_in 1059 (by decide +kernel) (by decide +kernel)))⟩
theorem fl_X10_23 : hv_FL RX10 23 10 4 := ⟨RX10, TX10, 52, tyX10, rfl, by decide, hv_usX10, rfl, tyX10_ok, nmX10, (Or.inl (hv_in 1060 (by decide +kernel) (by decide +kernel)))⟩
theorem fl_X10_26 : hv_FL RX10 26 10 5 := ⟨RX10, TX10, 52, tyX10, rfl, by decide, hv_usX10, rfl, tyX10_ok, nmX10, (Or.inl (hv_in 1061 (by decide +kernel) (by decide +kernel)))⟩
theorem fl_X10_29 : hv_FL RX10 29 10 6 := ⟨RX10, TX10, 52, tyX10, rfl, by decide, hv_usX10, rfl, tyX10_ok, nmX10, (Or.inl (hv_in 1062 (by decide +kernel) (by decide +kernel)))⟩
theorem fl_X10_32 : hv_FL RX10 32 10 7 := ⟨RX10, TX10, 52, tyX10, rfl, by decide, hv_usX10, rfl, tyX10_ok, nmX10, (Or.inl (hv_in 1063 (by decide +kernel) (by decide +kernel)))⟩
theorem fl_X10_35 : hv_FL RX10 35 10 8 := ⟨RX10, TX10, 52, tyX10, rfl, by decide, hv_usX10, rfl, tyX10_ok, nmX10, (Or.inl (hv_in 1064 (by decide +kernel) (by decide +kernel)))⟩
theorem fl_X10_39 : hv_FL RX10 39 10 9 := ⟨RX10, TX10, 52, tyX10, rfl, by decide, hv_usX10, rfl, tyX10_ok, nmX10, (Or.inl (hv_in 1065 (by decide +kernel) (by decide +kernel)))⟩
theorem fl_X10_42 : hv_FL RX10 42 10 10 := ⟨RX10, TX10, 52, tyX10, rfl, by decide, hv_usX10, rfl, tyX10_ok, nmX10, (Or.inl (hv_in 1066 (by decide +kernel) (by decide +kernel)))⟩
theorem fl_X10_45 : hv_FL RX10 45 10 11 := ⟨RX10, TX10, 52, tyX10, rfl, by decide, hv_usX10, rfl, tyX10_ok, nmX10, (Or.inl (hv_in 1067 (by decide +kernel) (by decide +kernel)))⟩
theorem fl_X10_48 : hv_FL RX10 48 10 12 := ⟨RX10, TX10, 52, tyX10, rfl, by decide, hv_usX10, rfl, tyX10_ok, nmX10, (Or.inl (hv_in 1068 (by decide +kernel) (by decide +kernel)))⟩
theorem fl_X10_51 : hv_FL RX10 51 10 13 := ⟨RX10, TX10, 52, tyX10, rfl, by decide, hv_usX10, rfl, tyX10_ok, nmX10, (Or.inl (hv_in 1069 (by decide +kernel) (by decide +kernel)))⟩
theorem fl_X10_54 : hv_FL RX10 54 10 14 := ⟨RX10, TX10, 52, tyX10, rfl, by decide, hv_usX10, rfl, tyX10_ok, nmX10, (Or.inl (hv_in 1070 (by decide +kernel) (by decide +kernel)))⟩
theorem fl_X10_57 : hv_FL RX10 57 10 15 := ⟨RX10, TX10, 52, tyX10, rfl, by decide, hv_usX10, rfl, tyX10_ok, nmX10, (Or.inl (hv_in 1071 (by decide +kernel) (by decide +kernel)))⟩
theorem fl_X10_60 : hv_FL RX10 60 10 16 := ⟨RX10, TX10, 52, tyX10, rfl, by decide, hv_usX10, rfl, tyX10_ok, nmX10, (Or.inl (hv_in 1072 (by decide +kernel) (by decide +kernel)))⟩
theorem fl_X10_63 : hv_FL RX10 63 10 17 := ⟨RX10, TX10, 52, tyX10, rfl, by decide, hv_usX10, rfl, tyX10_ok, nmX10, (Or.inl (hv_in 1073 (by decide +kernel) (by decide +kernel)))⟩
theorem fl_X10_66 : hv_FL RX10 66 10 18 := ⟨RX10, TX10, 52, tyX10, rfl, by decide, hv_usX10, rfl, tyX10_ok, nmX10, (Or.inl (hv_in 1074 (by decide +kernel) (by decide +kernel)))⟩
theorem fl_X10_70 : hv_FL RX10 70 10 19 := ⟨RX10, TX10, 52, tyX10, rfl, by decide, hv_usX10, rfl, tyX10_ok, nmX10, (Or.inl (hv_in 1075 (by decide +kernel) (by decide +kernel)))⟩
theorem fl_X10_73 : hv_FL RX10 73 10 20 := ⟨RX10, TX10, 52, tyX10, rfl, by decide, hv_usX10, rfl, tyX10_ok, nmX10, (Or.inl (hv_in 1076 (by decide +kernel) (by decide +kernel)))⟩
theorem fl_X10_76 : hv_FL RX10 76 10 21 := ⟨RX10, TX10, 52, tyX10, rfl, by decide, hv_usX10, rfl, tyX10_ok, nmX10, (Or.inl (hv_in 1077 (by decide +kernel) (by decide +kernel)))⟩
theorem fl_X10_79 : hv_FL RX10 79 10 22 := ⟨RX10, TX10, 52, tyX10, rfl, by decide, hv_usX10, rfl, tyX10_ok, nmX10, (Or.inl (hv_in 1078 (by decide +kernel) (by decide +kernel)))⟩
theorem fl_X10_82 : hv_FL RX10 82 10 23 := ⟨RX10, TX10, 52, tyX10, rfl, by decide, hv_usX10, rfl, tyX10_ok, nmX10, (Or.inl (hv_in 1079 (by decide +kernel) (by decide +kernel)))⟩
theorem fl_X10_85 : hv_FL RX10 85 10 24 := ⟨RX10, TX10, 52, tyX10, rfl, by decide, hv_usX10, rfl, tyX10_ok, nmX10, (Or.inl (hv_in 1080 (by decide +kernel) (by decide +kernel)))⟩
theorem fl_X10_88 : hv_FL RX10 88 10 25 := ⟨RX10, TX10, 52, tyX10, rfl, by decide, hv_usX10, rfl, tyX10_ok, nmX10, (Or.inl (hv_in 1081 (by decide +kernel) (by decide +kernel)))⟩
theorem fl_X10_91 : hv_FL RX10 91 10 26 := ⟨RX10, TX10, 52, tyX10, rfl, by decide, hv_usX10, rfl, tyX10_ok, nmX10, (Or.inl (hv_in 1082 (by decide +kernel) (by decide +kernel)))⟩
theorem fl_X10_94 : hv_FL RX10 94 10 27 := ⟨RX10, TX10, 52, tyX10, rfl, by decide, hv_usX10, rfl, tyX10_ok, nmX10, (Or.inl (hv_in 1083 (by decide +kernel) (by decide +kernel)))⟩
theorem fl_X10_97 : hv_FL RX10 97 10 28 := ⟨RX10, TX10, 52, tyX10, rfl, by decide, hv_usX10, rfl, tyX10_ok, nmX10, (Or.inl (hv_in 1084 (by decide +kernel) (by decide +kernel)))⟩
theorem fl_X10_100 : hv_FL RX10 100 10 29 := ⟨RX10, TX10, 52, tyX10, rfl, by decide, hv_usX10, rfl, tyX10_ok, nmX10, (Or.inl (hv_in 1085 (by decide +kernel) (by decide +kernel)))⟩
theorem fl_X10_103 : hv_FL RX10 103 10 30 := ⟨RX10, TX10, 52, tyX10, rfl, by decide, hv_usX10, rfl, tyX10_ok, nmX10, (Or.inl (hv_in 1086 (by decide +kernel) (by decide +kernel)))⟩
theorem fl_X10_106 : hv_FL RX10 106 10 31 := ⟨RX10, TX10, 52, tyX10, rfl, by decide, hv_usX10, rfl, tyX10_ok, nmX10, (Or.inl (hv_in 1087 (by decide +kernel) (by decide +kernel)))⟩
theorem fl_X10_109 : hv_FL RX10 109 10 32 := ⟨RX10, TX10, 52, tyX10, rfl, by decide, hv_usX10, rfl, tyX10_ok, nmX10, (Or.inl (hv_in 1088 (by decide +kernel) (by decide +kernel)))⟩
theorem fl_X10_112 : hv_FL RX10 112 10 33 := ⟨RX10, TX10, 52, tyX10, rfl, by decide, hv_usX10, rfl, tyX10_ok, nmX10, (Or.inl (hv_in 1089 (by decide +kernel) (by decide +kernel)))⟩
theorem fl_X10_115 : hv_FL RX10 115 10 34 := ⟨RX10, TX10, 52, tyX10, rfl, by decide, hv_usX10, rfl, tyX10_ok, nmX10, (Or.inl (hv_in 1090 (by decide +kernel) (by decide +kernel)))⟩
theorem fl_X10_118 : hv_FL RX10 118 10 35 := ⟨RX10, TX10, 52, tyX10, rfl, by decide, hv_usX10, rfl, tyX10_ok, nmX10, (Or.inl (hv_in 1091 (by decide +kernel) (by decide +kernel)))⟩
theorem fl_X10_121 : hv_FL RX10 121 10 36 := ⟨RX10, TX10, 52, tyX10, rfl, by decide, hv_usX10, rfl, tyX10_ok, nmX10, (Or.inl (hv_in 1092 (by decide +kernel) (by decide +kernel)))⟩
theorem fl_X10_124 : hv_FL RX10 124 10 37 := ⟨RX10, TX10, 52, tyX10, rfl, by decide, hv_usX10, rfl, tyX10_ok, nmX10, (Or.inl (hv_in 1093 (by decide +kernel) (by decide +kernel)))⟩
theorem fl_X10_127 : hv_FL RX10 127 10 38 := ⟨RX10, TX10, 52, tyX10, rfl, by decide, hv_usX10, rfl, tyX10_ok, nmX10, (Or.inl (hv_in 1094 (by decide +kernel) (by decide +kernel)))⟩
theorem fl_X10_131 : hv_FL RX10 131 10 39 := ⟨RX10, TX10, 52, tyX10, rfl, by decide, hv_usX10, rfl, tyX10_ok, nmX10, (Or.inl (hv_in 1095 (by decide +kernel) (by decide +kernel)))⟩
theorem fl_X10_134 : hv_FL RX10 134 10 40 := ⟨RX10, TX10, 52, tyX10, rfl, by decide, hv_usX10, rfl, tyX10_ok, nmX10, (Or.inl (hv_in 1096 (by decide +kernel) (by decide +kernel)))⟩
theorem fl_X10_138 : hv_FL RX10 138 10 41 := ⟨RX10, TX10, 52, tyX10, rfl, by decide, hv_usX10, rfl, tyX10_ok, nmX10, (Or.inl (hv_in 1097 (by decide +kernel) (by decide +kernel)))⟩
theorem fl_X10_141 : hv_FL RX10 141 10 42 := ⟨RX10, TX10, 52, tyX10, rfl, by decide, hv_usX10, rfl, tyX10_ok, nmX10, (Or.inl (hv_in 1098 (by decide +kernel) (by decide +kernel)))⟩
theorem fl_X10_144 : hv_FL RX10 144 10 43 := ⟨RX10, TX10, 52, tyX10, rfl, by decide, hv_usX10, rfl, tyX10_ok, nmX10, (Or.inl (hv_in 1099 (by decide +kernel) (by decide +kernel)))⟩
theorem fl_X10_147 : hv_FL RX10 147 10 44 := ⟨RX10, TX10, 52, tyX10, rfl, by decide, hv_usX10, rfl, tyX10_ok, nmX10, (Or.inl (hv_in 1100 (by decide +kernel) (by decide +kernel)))⟩
theorem fl_X10_150 : hv_FL RX10 150 10 45 := ⟨RX10, TX10, 52, tyX10, rfl, by decide, hv_usX10, rfl, tyX10_ok, nmX10, (Or.inl (hv_in 1101 (by decide +kernel) (by decide +kernel)))⟩
theorem fl_X10_153 : hv_FL RX10 153 10 46 := ⟨RX10, TX10, 52, tyX10, rfl, by decide, hv_usX10, rfl, tyX10_ok, nmX10, (Or.inl (hv_in 1102 (by decide +kernel) (by decide +kernel)))⟩
theorem fl_X10_156 : hv_FL RX10 156 10 47 := ⟨RX10, TX10, 52, tyX10, rfl, by decide, hv_usX10, rfl, tyX10_ok, nmX10, (Or.inl (hv_in 1103 (by decide +kernel) (by decide +kernel)))⟩
theorem fl_X10_159 : hv_FL RX10 159 10 48 := ⟨RX10, TX10, 52, tyX10, rfl, by decide, hv_usX10, rfl, tyX10_ok, nmX10, (Or.inl (hv_in 1104 (by decide +kernel) (by decide +kernel)))⟩
theorem fl_X10_162 : hv_FL RX10 162 10 49 := ⟨RX10, TX10, 52, tyX10, rfl, by decide, hv_usX10, rfl, tyX10_ok, nmX10, (Or.inl (hv_in 1105 (by decide +kernel) (by decide +kernel)))⟩
theorem fl_X10_165 : hv_FL RX10 165 10 50 := ⟨RX10, TX10, 52, tyX10, rfl, by decide, hv_usX10, rfl, tyX10_ok, nmX10, (Or.inl (hv_in 1106 (by decide +kernel) (by decide +kernel)))⟩
theorem fl_X10_168 : hv_FL RX10 168 10 51 := ⟨RX10, TX10, 52, tyX10, rfl, by decide, hv_usX10, rfl, tyX10_ok, nmX10, (Or.inl (hv_in 1107 (by decide +kernel) (by decide +kernel)))⟩
theorem pf_X0_1 : hv_PF 0 1 .int := ⟨RX0, TX0, 5, rfl, rfl, by decide +kernel⟩
theorem pf_X0_2 : hv_PF 0 2 .int := ⟨RX0, TX0, 5, rfl, rfl, by decide +kernel⟩
theorem pf_X0_3 : hv_PF 0 3 .int := ⟨RX0, TX0, 5, rfl, rfl, by decide +kernel⟩
theorem pf_X0_4 : hv_PF 0 4 .int := ⟨RX0, TX0, 5, rfl, rfl, by decide +kernel⟩
theorem pf_X1_1 : hv_PF 1 1 .int := ⟨RX1, TX1, 6, rfl, rfl, by decide +kernel⟩
theorem pf_X1_2 : hv_PF 1 2 .int := ⟨RX1, TX1, 6, rfl, rfl, by decide +kernel⟩
theorem pf_X1_3 : hv_PF 1 3 .int := ⟨RX1, TX1, 6, rfl, rfl, by decide +kernel⟩
theorem pf_X1_4 : hv_PF 1 4 .int := ⟨RX1, TX1, 6, rfl, rfl, by decide +kernel⟩
theorem pf_X1_5 : hv_PF 1 5 (.object "HandedVoices$Rules") := ⟨RX1, TX1, 6, rfl, rfl, by decide +kernel⟩
theorem pf_X2_7 : hv_PF 2 7 .int := ⟨RX2, TX2, 9, rfl, rfl, by decide +kernel⟩
theorem pf_X2_8 : hv_PF 2 8 .int := ⟨RX2, TX2, 9, rfl, rfl, by decide +kernel⟩
theorem pf_X3_3 : hv_PF 3 3 (.object "HandedVoices$Rules") := ⟨RX3, TX3, 5, rfl, rfl, by decide +kernel⟩
theorem pf_X3_4 : hv_PF 3 4 .int := ⟨RX3, TX3, 5, rfl, rfl, by decide +kernel⟩
theorem pf_X4_1 : hv_PF 4 1 .int := ⟨RX4, TX4, 6, rfl, rfl, by decide +kernel⟩
theorem pf_X4_2 : hv_PF 4 2 .int := ⟨RX4, TX4, 6, rfl, rfl, by decide +kernel⟩
theorem pf_X4_3 : hv_PF 4 3 .int := ⟨RX4, TX4, 6, rfl, rfl, by decide +kernel⟩
theorem pf_X4_4 : hv_PF 4 4 .int := ⟨RX4, TX4, 6, rfl, rfl, by decide +kernel⟩
theorem pf_X4_5 : hv_PF 4 5 .boolean := ⟨RX4, TX4, 6, rfl, rfl, by decide +kernel⟩
theorem pf_X5_4 : hv_PF 5 4 .int := ⟨RX5, TX5, 11, rfl, rfl, by decide +kernel⟩
theorem pf_X5_5 : hv_PF 5 5 .int := ⟨RX5, TX5, 11, rfl, rfl, by decide +kernel⟩
theorem pf_X5_6 : hv_PF 5 6 .int := ⟨RX5, TX5, 11, rfl, rfl, by decide +kernel⟩
theorem pf_X5_7 : hv_PF 5 7 .int := ⟨RX5, TX5, 11, rfl, rfl, by decide +kernel⟩
theorem pf_X5_8 : hv_PF 5 8 .int := ⟨RX5, TX5, 11, rfl, rfl, by decide +kernel⟩
theorem pf_X5_9 : hv_PF 5 9 .int := ⟨RX5, TX5, 11, rfl, rfl, by decide +kernel⟩
theorem pf_X5_10 : hv_PF 5 10 .int := ⟨RX5, TX5, 11, rfl, rfl, by decide +kernel⟩
theorem pf_X6_6 : hv_PF 6 6 .long := ⟨RX6, TX6, 10, rfl, rfl, by decide +kernel⟩
theorem pf_X6_7 : hv_PF 6 7 .long := ⟨RX6, TX6, 10, rfl, rfl, by decide +kernel⟩
theorem pf_X10_0 : hv_PF 10 0 .int := ⟨RX10, TX10, 52, rfl, rfl, by decide +kernel⟩
theorem pf_X10_1 : hv_PF 10 1 .int := ⟨RX10, TX10, 52, rfl, rfl, by decide +kernel⟩
theorem pf_X10_9 : hv_PF 10 9 .int := ⟨RX10, TX10, 52, rfl, rfl, by decide +kernel⟩
theorem pf_X10_10 : hv_PF 10 10 .int := ⟨RX10, TX10, 52, rfl, rfl, by decide +kernel⟩
theorem pf_X10_14 : hv_PF 10 14 .int := ⟨RX10, TX10, 52, rfl, rfl, by decide +kernel⟩
theorem pf_X10_15 : hv_PF 10 15 .int := ⟨RX10, TX10, 52, rfl, rfl, by decide +kernel⟩
theorem pf_X10_16 : hv_PF 10 16 .int := ⟨RX10, TX10, 52, rfl, rfl, by decide +kernel⟩
theorem pf_X10_17 : hv_PF 10 17 .int := ⟨RX10, TX10, 52, rfl, rfl, by decide +kernel⟩
theorem pf_X10_18 : hv_PF 10 18 .boolean := ⟨RX10, TX10, 52, rfl, rfl, by decide +kernel⟩
theorem pf_X10_19 : hv_PF 10 19 .int := ⟨RX10, TX10, 52, rfl, rfl, by decide +kernel⟩
theorem pf_X10_20 : hv_PF 10 20 .int := ⟨RX10, TX10, 52, rfl, rfl, by decide +kernel⟩
theorem pf_X10_21 : hv_PF 10 21 .int := ⟨RX10, TX10, 52, rfl, rfl, by decide +kernel⟩
theorem pf_X10_22 : hv_PF 10 22 .int := ⟨RX10, TX10, 52, rfl, rfl, by decide +kernel⟩
theorem pf_X10_24 : hv_PF 10 24 .boolean := ⟨RX10, TX10, 52, rfl, rfl, by decide +kernel⟩
theorem pf_X10_27 : hv_PF 10 27 .int := ⟨RX10, TX10, 52, rfl, rfl, by decide +kernel⟩
theorem pf_X10_28 : hv_PF 10 28 .int := ⟨RX10, TX10, 52, rfl, rfl, by decide +kernel⟩
theorem pf_X10_29 : hv_PF 10 29 .int := ⟨RX10, TX10, 52, rfl, rfl, by decide +kernel⟩
theorem pf_X10_30 : hv_PF 10 30 .int := ⟨RX10, TX10, 52, rfl, rfl, by decide +kernel⟩
theorem pf_X10_31 : hv_PF 10 31 .int := ⟨RX10, TX10, 52, rfl, rfl, by decide +kernel⟩
theorem pf_X10_32 : hv_PF 10 32 .int := ⟨RX10, TX10, 52, rfl, rfl, by decide +kernel⟩
theorem pf_X10_33 : hv_PF 10 33 .int := ⟨RX10, TX10, 52, rfl, rfl, by decide +kernel⟩
theorem pf_X10_35 : hv_PF 10 35 .int := ⟨RX10, TX10, 52, rfl, rfl, by decide +kernel⟩
theorem pf_X10_36 : hv_PF 10 36 .int := ⟨RX10, TX10, 52, rfl, rfl, by decide +kernel⟩
theorem pf_X10_37 : hv_PF 10 37 .int := ⟨RX10, TX10, 52, rfl, rfl, by decide +kernel⟩
theorem pf_X10_40 : hv_PF 10 40 .long := ⟨RX10, TX10, 52, rfl, rfl, by decide +kernel⟩
theorem pf_X10_41 : hv_PF 10 41 .int := ⟨RX10, TX10, 52, rfl, rfl, by decide +kernel⟩
theorem pf_X10_42 : hv_PF 10 42 .long := ⟨RX10, TX10, 52, rfl, rfl, by decide +kernel⟩
theorem pf_X10_43 : hv_PF 10 43 .long := ⟨RX10, TX10, 52, rfl, rfl, by decide +kernel⟩
theorem pf_X10_46 : hv_PF 10 46 .int := ⟨RX10, TX10, 52, rfl, rfl, by decide +kernel⟩
theorem mw_X9_init : hv_MW m_X9_init 0 := ⟨(hv_in 150 (by decide +kernel) (by decide +kernel)), by decide +kernel, (hv_in 127 (by decide +kernel) (by decide +kernel))⟩
theorem mw_X2_init : hv_MW m_X2_init 0 := ⟨(hv_in 158 (by decide +kernel) (by decide +kernel)), by decide +kernel, (hv_in 128 (by decide +kernel) (by decide +kernel))⟩
theorem mw_J7_fill_53178 : hv_MW m_J7_fill_53178 2 := ⟨(hv_in 162 (by decide +kernel) (by decide +kernel)), by decide +kernel, (hv_in 129 (by decide +kernel) (by decide +kernel))⟩
theorem mw_X1_init : hv_MW m_X1_init 0 := ⟨(hv_in 216 (by decide +kernel) (by decide +kernel)), by decide +kernel, (hv_in 130 (by decide +kernel) (by decide +kernel))⟩
theorem mw_X4_init : hv_MW m_X4_init 0 := ⟨(hv_in 222 (by decide +kernel) (by decide +kernel)), by decide +kernel, (hv_in 131 (by decide +kernel) (by decide +kernel))⟩
theorem mw_X4_clear : hv_MW m_X4_clear 0 := ⟨(hv_in 227 (by decide +kernel) (by decide +kernel)), by decide +kernel, (hv_in 131 (by decide +kernel) (by decide +kernel))⟩
theorem mw_X3_init : hv_MW m_X3_init 1 := ⟨(hv_in 281 (by decide +kernel) (by decide +kernel)), by decide +kernel, (hv_in 132 (by decide +kernel) (by decide +kernel))⟩
theorem mw_X5_init : hv_MW m_X5_init 2 := ⟨(hv_in 309 (by decide +kernel) (by decide +kernel)), by decide +kernel, (hv_in 133 (by decide +kernel) (by decide +kernel))⟩
theorem mw_X6_init : hv_MW m_X6_init 3 := ⟨(hv_in 356 (by decide +kernel) (by decide +kernel)), by decide +kernel, (hv_in 134 (by decide +kernel) (by decide +kernel))⟩
theorem mw_X8_init : hv_MW m_X8_init 4 := ⟨(hv_in 400 (by decide +kernel) (by decide +kernel)), by decide +kernel, (hv_in 135 (by decide +kernel) (by decide +kernel))⟩
theorem mw_X0_init : hv_MW m_X0_init 0 := ⟨(hv_in 422 (by decide +kernel) (by decide +kernel)), by decide +kernel, (hv_in 136 (by decide +kernel) (by decide +kernel))⟩
theorem mw_X7_init : hv_MW m_X7_init 0 := ⟨(hv_in 446 (by decide +kernel) (by decide +kernel)), by decide +kernel, (hv_in 137 (by decide +kernel) (by decide +kernel))⟩
theorem mw_X9_member : hv_MW m_X9_member 0 := ⟨(hv_in 489 (by decide +kernel) (by decide +kernel)), by decide +kernel, (hv_in 127 (by decide +kernel) (by decide +kernel))⟩
theorem mw_X9_think : hv_MW m_X9_think 4 := ⟨(hv_in 493 (by decide +kernel) (by decide +kernel)), by decide +kernel, (hv_in 127 (by decide +kernel) (by decide +kernel))⟩
theorem mw_X2_sits : hv_MW m_X2_sits 1 := ⟨(hv_in 497 (by decide +kernel) (by decide +kernel)), by decide +kernel, (hv_in 128 (by decide +kernel) (by decide +kernel))⟩
theorem mw_X9_isMatter : hv_MW m_X9_isMatter 1 := ⟨(hv_in 500 (by decide +kernel) (by decide +kernel)), by decide +kernel, (hv_in 127 (by decide +kernel) (by decide +kernel))⟩
theorem mw_X2_opinion : hv_MW m_X2_opinion 2 := ⟨(hv_in 504 (by decide +kernel) (by decide +kernel)), by decide +kernel, (hv_in 128 (by decide +kernel) (by decide +kernel))⟩
theorem mw_X9_cell : hv_MW m_X9_cell 2 := ⟨(hv_in 507 (by decide +kernel) (by decide +kernel)), by decide +kernel, (hv_in 127 (by decide +kernel) (by decide +kernel))⟩
theorem mw_X2_form : hv_MW m_X2_form 4 := ⟨(hv_in 511 (by decide +kernel) (by decide +kernel)), by decide +kernel, (hv_in 128 (by decide +kernel) (by decide +kernel))⟩
theorem mw_X3_learn : hv_MW m_X3_learn 1 := ⟨(hv_in 516 (by decide +kernel) (by decide +kernel)), by decide +kernel, (hv_in 132 (by decide +kernel) (by decide +kernel))⟩
theorem mw_X3_maskOf : hv_MW m_X3_maskOf 2 := ⟨(hv_in 521 (by decide +kernel) (by decide +kernel)), by decide +kernel, (hv_in 132 (by decide +kernel) (by decide +kernel))⟩
theorem mw_X4_forbid : hv_MW m_X4_forbid 1 := ⟨(hv_in 525 (by decide +kernel) (by decide +kernel)), by decide +kernel, (hv_in 131 (by decide +kernel) (by decide +kernel))⟩
theorem mw_X4_isTrue : hv_MW m_X4_isTrue 2 := ⟨(hv_in 528 (by decide +kernel) (by decide +kernel)), by decide +kernel, (hv_in 131 (by decide +kernel) (by decide +kernel))⟩
theorem mw_X9_hand : hv_MW m_X9_hand 3 := ⟨(hv_in 532 (by decide +kernel) (by decide +kernel)), by decide +kernel, (hv_in 127 (by decide +kernel) (by decide +kernel))⟩
theorem mw_X2_renew : hv_MW m_X2_renew 5 := ⟨(hv_in 536 (by decide +kernel) (by decide +kernel)), by decide +kernel, (hv_in 128 (by decide +kernel) (by decide +kernel))⟩
theorem mw_X9_give : hv_MW m_X9_give 3 := ⟨(hv_in 540 (by decide +kernel) (by decide +kernel)), by decide +kernel, (hv_in 127 (by decide +kernel) (by decide +kernel))⟩
theorem mw_X9_names : hv_MW m_X9_names 5 := ⟨(hv_in 544 (by decide +kernel) (by decide +kernel)), by decide +kernel, (hv_in 127 (by decide +kernel) (by decide +kernel))⟩
theorem mw_X9_back : hv_MW m_X9_back 3 := ⟨(hv_in 548 (by decide +kernel) (by decide +kernel)), by decide +kernel, (hv_in 127 (by decide +kernel) (by decide +kernel))⟩
theorem mw_X9_pass : hv_MW m_X9_pass 1 := ⟨(hv_in 552 (by decide +kernel) (by decide +kernel)), by decide +kernel, (hv_in 127 (by decide +kernel) (by decide +kernel))⟩
theorem mw_X9_of : hv_MW m_X9_of 3 := ⟨(hv_in 556 (by decide +kernel) (by decide +kernel)), by decide +kernel, (hv_in 127 (by decide +kernel) (by decide +kernel))⟩
theorem mw_X9_feed : hv_MW m_X9_feed 2 := ⟨(hv_in 560 (by decide +kernel) (by decide +kernel)), by decide +kernel, (hv_in 127 (by decide +kernel) (by decide +kernel))⟩
theorem mw_X1_append : hv_MW m_X1_append 1 := ⟨(hv_in 564 (by decide +kernel) (by decide +kernel)), by decide +kernel, (hv_in 130 (by decide +kernel) (by decide +kernel))⟩
theorem mw_X9_hall : hv_MW m_X9_hall 0 := ⟨(hv_in 568 (by decide +kernel) (by decide +kernel)), by decide +kernel, (hv_in 127 (by decide +kernel) (by decide +kernel))⟩
theorem mw_X1_fault : hv_MW m_X1_fault 0 := ⟨(hv_in 572 (by decide +kernel) (by decide +kernel)), by decide +kernel, (hv_in 130 (by decide +kernel) (by decide +kernel))⟩
theorem mw_X1_clause : hv_MW m_X1_clause 0 := ⟨(hv_in 577 (by decide +kernel) (by decide +kernel)), by decide +kernel, (hv_in 130 (by decide +kernel) (by decide +kernel))⟩
theorem mw_X1_seen : hv_MW m_X1_seen 0 := ⟨(hv_in 581 (by decide +kernel) (by decide +kernel)), by decide +kernel, (hv_in 130 (by decide +kernel) (by decide +kernel))⟩
theorem mw_X1_word : hv_MW m_X1_word 1 := ⟨(hv_in 586 (by decide +kernel) (by decide +kernel)), by decide +kernel, (hv_in 130 (by decide +kernel) (by decide +kernel))⟩
theorem mw_J0_length_8abf5 : hv_MW m_J0_length_8abf5 0 := ⟨(hv_in 590 (by decide +kernel) (by decide +kernel)), by decide +kernel, (hv_in 139 (by decide +kernel) (by decide +kernel))⟩
theorem mw_J0_coder_7d493 : hv_MW m_J0_coder_7d493 0 := ⟨(hv_in 594 (by decide +kernel) (by decide +kernel)), by decide +kernel, (hv_in 139 (by decide +kernel) (by decide +kernel))⟩
theorem mw_J0_charAt_5068e : hv_MW m_J0_charAt_5068e 1 := ⟨(hv_in 600 (by decide +kernel) (by decide +kernel)), by decide +kernel, (hv_in 139 (by decide +kernel) (by decide +kernel))⟩
theorem mw_J0_isLatin1_aae02 : hv_MW m_J0_isLatin1_aae02 0 := ⟨(hv_in 604 (by decide +kernel) (by decide +kernel)), by decide +kernel, (hv_in 139 (by decide +kernel) (by decide +kernel))⟩
theorem mw_J1_charAt_3b067 : hv_MW m_J1_charAt_3b067 2 := ⟨(hv_in 607 (by decide +kernel) (by decide +kernel)), by decide +kernel, (hv_in 140 (by decide +kernel) (by decide +kernel))⟩
theorem mw_J0_checkIndex_df160 : hv_MW m_J0_checkIndex_df160 2 := ⟨(hv_in 610 (by decide +kernel) (by decide +kernel)), by decide +kernel, (hv_in 139 (by decide +kernel) (by decide +kernel))⟩
theorem mw_J3_checkIndex_8e157 : hv_MW m_J3_checkIndex_8e157 3 := ⟨(hv_in 615 (by decide +kernel) (by decide +kernel)), by decide +kernel, (hv_in 141 (by decide +kernel) (by decide +kernel))⟩
theorem mw_J2_charAt_3b067 : hv_MW m_J2_charAt_3b067 2 := ⟨(hv_in 618 (by decide +kernel) (by decide +kernel)), by decide +kernel, (hv_in 142 (by decide +kernel) (by decide +kernel))⟩
theorem mw_J2_checkIndex_2214a : hv_MW m_J2_checkIndex_2214a 2 := ⟨(hv_in 621 (by decide +kernel) (by decide +kernel)), by decide +kernel, (hv_in 142 (by decide +kernel) (by decide +kernel))⟩
theorem mw_J2_length_9d52b : hv_MW m_J2_length_9d52b 1 := ⟨(hv_in 624 (by decide +kernel) (by decide +kernel)), by decide +kernel, (hv_in 142 (by decide +kernel) (by decide +kernel))⟩
theorem mw_J2_getChar_3b067 : hv_MW m_J2_getChar_3b067 2 := ⟨(hv_in 628 (by decide +kernel) (by decide +kernel)), by decide +kernel, (hv_in 142 (by decide +kernel) (by decide +kernel))⟩
theorem mw_X1_either : hv_MW m_X1_either 1 := ⟨(hv_in 638 (by decide +kernel) (by decide +kernel)), by decide +kernel, (hv_in 130 (by decide +kernel) (by decide +kernel))⟩
theorem mw_X1_single : hv_MW m_X1_single 1 := ⟨(hv_in 642 (by decide +kernel) (by decide +kernel)), by decide +kernel, (hv_in 130 (by decide +kernel) (by decide +kernel))⟩
theorem mw_X1_test : hv_MW m_X1_test 0 := ⟨(hv_in 646 (by decide +kernel) (by decide +kernel)), by decide +kernel, (hv_in 130 (by decide +kernel) (by decide +kernel))⟩
theorem mw_X1_signOf : hv_MW m_X1_signOf 1 := ⟨(hv_in 651 (by decide +kernel) (by decide +kernel)), by decide +kernel, (hv_in 130 (by decide +kernel) (by decide +kernel))⟩
theorem mw_X1_figuresOf : hv_MW m_X1_figuresOf 0 := ⟨(hv_in 656 (by decide +kernel) (by decide +kernel)), by decide +kernel, (hv_in 130 (by decide +kernel) (by decide +kernel))⟩
theorem mw_X4_test : hv_MW m_X4_test 3 := ⟨(hv_in 659 (by decide +kernel) (by decide +kernel)), by decide +kernel, (hv_in 131 (by decide +kernel) (by decide +kernel))⟩
theorem mw_X4_add : hv_MW m_X4_add 1 := ⟨(hv_in 663 (by decide +kernel) (by decide +kernel)), by decide +kernel, (hv_in 131 (by decide +kernel) (by decide +kernel))⟩
theorem mw_X1_need : hv_MW m_X1_need 0 := ⟨(hv_in 669 (by decide +kernel) (by decide +kernel)), by decide +kernel, (hv_in 130 (by decide +kernel) (by decide +kernel))⟩
theorem mw_X1_ring : hv_MW m_X1_ring 0 := ⟨(hv_in 675 (by decide +kernel) (by decide +kernel)), by decide +kernel, (hv_in 130 (by decide +kernel) (by decide +kernel))⟩
theorem mw_X3_adopt : hv_MW m_X3_adopt 1 := ⟨(hv_in 679 (by decide +kernel) (by decide +kernel)), by decide +kernel, (hv_in 132 (by decide +kernel) (by decide +kernel))⟩
theorem mw_X9_barred : hv_MW m_X9_barred 3 := ⟨(hv_in 685 (by decide +kernel) (by decide +kernel)), by decide +kernel, (hv_in 127 (by decide +kernel) (by decide +kernel))⟩
theorem mw_X3_bars : hv_MW m_X3_bars 3 := ⟨(hv_in 689 (by decide +kernel) (by decide +kernel)), by decide +kernel, (hv_in 132 (by decide +kernel) (by decide +kernel))⟩
theorem mw_X9_share : hv_MW m_X9_share 3 := ⟨(hv_in 693 (by decide +kernel) (by decide +kernel)), by decide +kernel, (hv_in 127 (by decide +kernel) (by decide +kernel))⟩
theorem mw_X5_lay : hv_MW m_X5_lay 5 := ⟨(hv_in 697 (by decide +kernel) (by decide +kernel)), by decide +kernel, (hv_in 133 (by decide +kernel) (by decide +kernel))⟩
theorem mw_X5_layFirm : hv_MW m_X5_layFirm 5 := ⟨(hv_in 701 (by decide +kernel) (by decide +kernel)), by decide +kernel, (hv_in 133 (by decide +kernel) (by decide +kernel))⟩
theorem mw_X5_send : hv_MW m_X5_send 3 := ⟨(hv_in 706 (by decide +kernel) (by decide +kernel)), by decide +kernel, (hv_in 133 (by decide +kernel) (by decide +kernel))⟩
theorem mw_X5_stay : hv_MW m_X5_stay 2 := ⟨(hv_in 710 (by decide +kernel) (by decide +kernel)), by decide +kernel, (hv_in 133 (by decide +kernel) (by decide +kernel))⟩
theorem mw_X2_isSelf : hv_MW m_X2_isSelf 2 := ⟨(hv_in 714 (by decide +kernel) (by decide +kernel)), by decide +kernel, (hv_in 128 (by decide +kernel) (by decide +kernel))⟩
theorem mw_X5_layHand : hv_MW m_X5_layHand 2 := ⟨(hv_in 718 (by decide +kernel) (by decide +kernel)), by decide +kernel, (hv_in 133 (by decide +kernel) (by decide +kernel))⟩
theorem mw_X2_surestOf : hv_MW m_X2_surestOf 2 := ⟨(hv_in 722 (by decide +kernel) (by decide +kernel)), by decide +kernel, (hv_in 128 (by decide +kernel) (by decide +kernel))⟩
theorem mw_X5_layOrders : hv_MW m_X5_layOrders 0 := ⟨(hv_in 726 (by decide +kernel) (by decide +kernel)), by decide +kernel, (hv_in 133 (by decide +kernel) (by decide +kernel))⟩
theorem mw_X5_seekWays : hv_MW m_X5_seekWays 1 := ⟨(hv_in 730 (by decide +kernel) (by decide +kernel)), by decide +kernel, (hv_in 133 (by decide +kernel) (by decide +kernel))⟩
theorem mw_X5_openNames : hv_MW m_X5_openNames 1 := ⟨(hv_in 734 (by decide +kernel) (by decide +kernel)), by decide +kernel, (hv_in 133 (by decide +kernel) (by decide +kernel))⟩
theorem mw_J6_bitCount_0f7a4 : hv_MW m_J6_bitCount_0f7a4 1 := ⟨(hv_in 737 (by decide +kernel) (by decide +kernel)), by decide +kernel, (hv_in 143 (by decide +kernel) (by decide +kernel))⟩
theorem mw_X5_reachAll : hv_MW m_X5_reachAll 1 := ⟨(hv_in 744 (by decide +kernel) (by decide +kernel)), by decide +kernel, (hv_in 133 (by decide +kernel) (by decide +kernel))⟩
theorem mw_X5_nameOf : hv_MW m_X5_nameOf 2 := ⟨(hv_in 748 (by decide +kernel) (by decide +kernel)), by decide +kernel, (hv_in 133 (by decide +kernel) (by decide +kernel))⟩
theorem mw_X5_reaching : hv_MW m_X5_reaching 0 := ⟨(hv_in 752 (by decide +kernel) (by decide +kernel)), by decide +kernel, (hv_in 133 (by decide +kernel) (by decide +kernel))⟩
theorem mw_X9_voices : hv_MW m_X9_voices 3 := ⟨(hv_in 756 (by decide +kernel) (by decide +kernel)), by decide +kernel, (hv_in 127 (by decide +kernel) (by decide +kernel))⟩
theorem mw_X9_isPart : hv_MW m_X9_isPart 1 := ⟨(hv_in 759 (by decide +kernel) (by decide +kernel)), by decide +kernel, (hv_in 127 (by decide +kernel) (by decide +kernel))⟩
theorem mw_X6_reckonNow : hv_MW m_X6_reckonNow 1 := ⟨(hv_in 764 (by decide +kernel) (by decide +kernel)), by decide +kernel, (hv_in 134 (by decide +kernel) (by decide +kernel))⟩
theorem mw_X6_reckon : hv_MW m_X6_reckon 5 := ⟨(hv_in 768 (by decide +kernel) (by decide +kernel)), by decide +kernel, (hv_in 134 (by decide +kernel) (by decide +kernel))⟩
theorem mw_X6_weigh : hv_MW m_X6_weigh 0 := ⟨(hv_in 773 (by decide +kernel) (by decide +kernel)), by decide +kernel, (hv_in 134 (by decide +kernel) (by decide +kernel))⟩
theorem mw_J7_fill_d0a16 : hv_MW m_J7_fill_d0a16 2 := ⟨(hv_in 776 (by decide +kernel) (by decide +kernel)), by decide +kernel, (hv_in 129 (by decide +kernel) (by decide +kernel))⟩
theorem mw_X6_listHeard : hv_MW m_X6_listHeard 1 := ⟨(hv_in 781 (by decide +kernel) (by decide +kernel)), by decide +kernel, (hv_in 134 (by decide +kernel) (by decide +kernel))⟩
theorem mw_X6_fillRows : hv_MW m_X6_fillRows 1 := ⟨(hv_in 785 (by decide +kernel) (by decide +kernel)), by decide +kernel, (hv_in 134 (by decide +kernel) (by decide +kernel))⟩
theorem mw_X6_unroll : hv_MW m_X6_unroll 1 := ⟨(hv_in 790 (by decide +kernel) (by decide +kernel)), by decide +kernel, (hv_in 134 (by decide +kernel) (by decide +kernel))⟩
theorem mw_X6_clear : hv_MW m_X6_clear 5 := ⟨(hv_in 793 (by decide +kernel) (by decide +kernel)), by decide +kernel, (hv_in 134 (by decide +kernel) (by decide +kernel))⟩
theorem mw_J9_min_f86c9 : hv_MW m_J9_min_f86c9 2 := ⟨(hv_in 796 (by decide +kernel) (by decide +kernel)), by decide +kernel, (hv_in 144 (by decide +kernel) (by decide +kernel))⟩
theorem mw_X9_lowest : hv_MW m_X9_lowest 3 := ⟨(hv_in 799 (by decide +kernel) (by decide +kernel)), by decide +kernel, (hv_in 127 (by decide +kernel) (by decide +kernel))⟩
theorem mw_X9_commonDivisor : hv_MW m_X9_commonDivisor 2 := ⟨(hv_in 802 (by decide +kernel) (by decide +kernel)), by decide +kernel, (hv_in 127 (by decide +kernel) (by decide +kernel))⟩
theorem mw_X9_lost : hv_MW m_X9_lost 1 := ⟨(hv_in 806 (by decide +kernel) (by decide +kernel)), by decide +kernel, (hv_in 127 (by decide +kernel) (by decide +kernel))⟩
theorem mw_X9_decided : hv_MW m_X9_decided 1 := ⟨(hv_in 811 (by decide +kernel) (by decide +kernel)), by decide +kernel, (hv_in 127 (by decide +kernel) (by decide +kernel))⟩
theorem mw_X6_sumOf : hv_MW m_X6_sumOf 1 := ⟨(hv_in 815 (by decide +kernel) (by decide +kernel)), by decide +kernel, (hv_in 134 (by decide +kernel) (by decide +kernel))⟩
theorem mw_X6_decides : hv_MW m_X6_decides 1 := ⟨(hv_in 819 (by decide +kernel) (by decide +kernel)), by decide +kernel, (hv_in 134 (by decide +kernel) (by decide +kernel))⟩
theorem mw_X9_turning : hv_MW m_X9_turning 1 := ⟨(hv_in 823 (by decide +kernel) (by decide +kernel)), by decide +kernel, (hv_in 127 (by decide +kernel) (by decide +kernel))⟩
theorem mw_X9_power : hv_MW m_X9_power 2 := ⟨(hv_in 827 (by decide +kernel) (by decide +kernel)), by decide +kernel, (hv_in 127 (by decide +kernel) (by decide +kernel))⟩
theorem mw_X6_withVoices : hv_MW m_X6_withVoices 0 := ⟨(hv_in 831 (by decide +kernel) (by decide +kernel)), by decide +kernel, (hv_in 134 (by decide +kernel) (by decide +kernel))⟩
theorem mw_X9_few : hv_MW m_X9_few 1 := ⟨(hv_in 835 (by decide +kernel) (by decide +kernel)), by decide +kernel, (hv_in 127 (by decide +kernel) (by decide +kernel))⟩
theorem mw_X9_best : hv_MW m_X9_best 2 := ⟨(hv_in 840 (by decide +kernel) (by decide +kernel)), by decide +kernel, (hv_in 127 (by decide +kernel) (by decide +kernel))⟩
theorem mw_X9_right : hv_MW m_X9_right 3 := ⟨(hv_in 846 (by decide +kernel) (by decide +kernel)), by decide +kernel, (hv_in 127 (by decide +kernel) (by decide +kernel))⟩
theorem mw_X6_chanceIf : hv_MW m_X6_chanceIf 4 := ⟨(hv_in 850 (by decide +kernel) (by decide +kernel)), by decide +kernel, (hv_in 134 (by decide +kernel) (by decide +kernel))⟩
theorem mw_X6_chance : hv_MW m_X6_chance 1 := ⟨(hv_in 854 (by decide +kernel) (by decide +kernel)), by decide +kernel, (hv_in 134 (by decide +kernel) (by decide +kernel))⟩
theorem mw_X6_fork : hv_MW m_X6_fork 3 := ⟨(hv_in 861 (by decide +kernel) (by decide +kernel)), by decide +kernel, (hv_in 134 (by decide +kernel) (by decide +kernel))⟩
theorem mw_X9_surest : hv_MW m_X9_surest 1 := ⟨(hv_in 867 (by decide +kernel) (by decide +kernel)), by decide +kernel, (hv_in 127 (by decide +kernel) (by decide +kernel))⟩
theorem mw_X9_breach : hv_MW m_X9_breach 1 := ⟨(hv_in 872 (by decide +kernel) (by decide +kernel)), by decide +kernel, (hv_in 127 (by decide +kernel) (by decide +kernel))⟩
theorem mw_X8_firstBreach : hv_MW m_X8_firstBreach 1 := ⟨(hv_in 876 (by decide +kernel) (by decide +kernel)), by decide +kernel, (hv_in 135 (by decide +kernel) (by decide +kernel))⟩
theorem mw_X9_rather : hv_MW m_X9_rather 1 := ⟨(hv_in 882 (by decide +kernel) (by decide +kernel)), by decide +kernel, (hv_in 127 (by decide +kernel) (by decide +kernel))⟩
theorem mw_X8_firstWish : hv_MW m_X8_firstWish 1 := ⟨(hv_in 886 (by decide +kernel) (by decide +kernel)), by decide +kernel, (hv_in 135 (by decide +kernel) (by decide +kernel))⟩
theorem mw_X9_settle : hv_MW m_X9_settle 1 := ⟨(hv_in 891 (by decide +kernel) (by decide +kernel)), by decide +kernel, (hv_in 127 (by decide +kernel) (by decide +kernel))⟩
theorem mw_X9_heap : hv_MW m_X9_heap 2 := ⟨(hv_in 895 (by decide +kernel) (by decide +kernel)), by decide +kernel, (hv_in 127 (by decide +kernel) (by decide +kernel))⟩
theorem mw_X6_highest : hv_MW m_X6_highest 0 := ⟨(hv_in 899 (by decide +kernel) (by decide +kernel)), by decide +kernel, (hv_in 134 (by decide +kernel) (by decide +kernel))⟩
theorem mw_J9_max_f86c9 : hv_MW m_J9_max_f86c9 2 := ⟨(hv_in 902 (by decide +kernel) (by decide +kernel)), by decide +kernel, (hv_in 144 (by decide +kernel) (by decide +kernel))⟩
theorem mw_X9_mend : hv_MW m_X9_mend 3 := ⟨(hv_in 906 (by decide +kernel) (by decide +kernel)), by decide +kernel, (hv_in 127 (by decide +kernel) (by decide +kernel))⟩
theorem mw_X8_bestMending : hv_MW m_X8_bestMending 3 := ⟨(hv_in 910 (by decide +kernel) (by decide +kernel)), by decide +kernel, (hv_in 135 (by decide +kernel) (by decide +kernel))⟩
theorem mw_X8_movers : hv_MW m_X8_movers 1 := ⟨(hv_in 915 (by decide +kernel) (by decide +kernel)), by decide +kernel, (hv_in 135 (by decide +kernel) (by decide +kernel))⟩
theorem mw_X9_late : hv_MW m_X9_late 1 := ⟨(hv_in 924 (by decide +kernel) (by decide +kernel)), by decide +kernel, (hv_in 127 (by decide +kernel) (by decide +kernel))⟩
theorem mw_X8_lastOtherwise : hv_MW m_X8_lastOtherwise 1 := ⟨(hv_in 928 (by decide +kernel) (by decide +kernel)), by decide +kernel, (hv_in 135 (by decide +kernel) (by decide +kernel))⟩
theorem mw_X8_decidedAt : hv_MW m_X8_decidedAt 2 := ⟨(hv_in 932 (by decide +kernel) (by decide +kernel)), by decide +kernel, (hv_in 135 (by decide +kernel) (by decide +kernel))⟩
theorem mw_X2_takenBackAt : hv_MW m_X2_takenBackAt 2 := ⟨(hv_in 940 (by decide +kernel) (by decide +kernel)), by decide +kernel, (hv_in 128 (by decide +kernel) (by decide +kernel))⟩
theorem mw_X9_fewest : hv_MW m_X9_fewest 1 := ⟨(hv_in 944 (by decide +kernel) (by decide +kernel)), by decide +kernel, (hv_in 127 (by decide +kernel) (by decide +kernel))⟩
theorem mw_X8_fewestToWin : hv_MW m_X8_fewestToWin 1 := ⟨(hv_in 948 (by decide +kernel) (by decide +kernel)), by decide +kernel, (hv_in 135 (by decide +kernel) (by decide +kernel))⟩
theorem mw_X9_table : hv_MW m_X9_table 3 := ⟨(hv_in 952 (by decide +kernel) (by decide +kernel)), by decide +kernel, (hv_in 127 (by decide +kernel) (by decide +kernel))⟩
theorem mw_X7_exists : hv_MW m_X7_exists 1 := ⟨(hv_in 956 (by decide +kernel) (by decide +kernel)), by decide +kernel, (hv_in 137 (by decide +kernel) (by decide +kernel))⟩
theorem mw_X7_get : hv_MW m_X7_get 2 := ⟨(hv_in 960 (by decide +kernel) (by decide +kernel)), by decide +kernel, (hv_in 137 (by decide +kernel) (by decide +kernel))⟩
theorem mw_X9_act : hv_MW m_X9_act 4 := ⟨(hv_in 964 (by decide +kernel) (by decide +kernel)), by decide +kernel, (hv_in 127 (by decide +kernel) (by decide +kernel))⟩
theorem mw_X0_clear : hv_MW m_X0_clear 0 := ⟨(hv_in 968 (by decide +kernel) (by decide +kernel)), by decide +kernel, (hv_in 136 (by decide +kernel) (by decide +kernel))⟩
theorem mw_X0_run : hv_MW m_X0_run 5 := ⟨(hv_in 972 (by decide +kernel) (by decide +kernel)), by decide +kernel, (hv_in 136 (by decide +kernel) (by decide +kernel))⟩
theorem mw_X0_gives : hv_MW m_X0_gives 1 := ⟨(hv_in 976 (by decide +kernel) (by decide +kernel)), by decide +kernel, (hv_in 136 (by decide +kernel) (by decide +kernel))⟩
theorem mw_X0_begin : hv_MW m_X0_begin 1 := ⟨(hv_in 980 (by decide +kernel) (by decide +kernel)), by decide +kernel, (hv_in 136 (by decide +kernel) (by decide +kernel))⟩
theorem mw_X0_holds : hv_MW m_X0_holds 1 := ⟨(hv_in 984 (by decide +kernel) (by decide +kernel)), by decide +kernel, (hv_in 136 (by decide +kernel) (by decide +kernel))⟩
theorem mw_X0_tells : hv_MW m_X0_tells 1 := ⟨(hv_in 988 (by decide +kernel) (by decide +kernel)), by decide +kernel, (hv_in 136 (by decide +kernel) (by decide +kernel))⟩
theorem mw_X0_tellsAsHand : hv_MW m_X0_tellsAsHand 1 := ⟨(hv_in 992 (by decide +kernel) (by decide +kernel)), by decide +kernel, (hv_in 136 (by decide +kernel) (by decide +kernel))⟩
theorem mw_X9_trace : hv_MW m_X9_trace 1 := ⟨(hv_in 996 (by decide +kernel) (by decide +kernel)), by decide +kernel, (hv_in 127 (by decide +kernel) (by decide +kernel))⟩
theorem mw_X0_kept : hv_MW m_X0_kept 0 := ⟨(hv_in 1000 (by decide +kernel) (by decide +kernel)), by decide +kernel, (hv_in 136 (by decide +kernel) (by decide +kernel))⟩
theorem mw_J9_min_7cf53 : hv_MW m_J9_min_7cf53 2 := ⟨(hv_in 1003 (by decide +kernel) (by decide +kernel)), by decide +kernel, (hv_in 144 (by decide +kernel) (by decide +kernel))⟩
theorem mw_X9_taken : hv_MW m_X9_taken 3 := ⟨(hv_in 1007 (by decide +kernel) (by decide +kernel)), by decide +kernel, (hv_in 127 (by decide +kernel) (by decide +kernel))⟩
theorem mw_X9_count : hv_MW m_X9_count 1 := ⟨(hv_in 1011 (by decide +kernel) (by decide +kernel)), by decide +kernel, (hv_in 127 (by decide +kernel) (by decide +kernel))⟩
theorem mw_X9_tape : hv_MW m_X9_tape 3 := ⟨(hv_in 1015 (by decide +kernel) (by decide +kernel)), by decide +kernel, (hv_in 127 (by decide +kernel) (by decide +kernel))⟩
theorem mw_X7_reset : hv_MW m_X7_reset 3 := ⟨(hv_in 1019 (by decide +kernel) (by decide +kernel)), by decide +kernel, (hv_in 137 (by decide +kernel) (by decide +kernel))⟩
theorem mw_X9_item : hv_MW m_X9_item 3 := ⟨(hv_in 1023 (by decide +kernel) (by decide +kernel)), by decide +kernel, (hv_in 127 (by decide +kernel) (by decide +kernel))⟩
theorem mw_X7_put : hv_MW m_X7_put 3 := ⟨(hv_in 1027 (by decide +kernel) (by decide +kernel)), by decide +kernel, (hv_in 137 (by decide +kernel) (by decide +kernel))⟩
theorem mw_X7_narrow : hv_MW m_X7_narrow 2 := ⟨(hv_in 1030 (by decide +kernel) (by decide +kernel)), by decide +kernel, (hv_in 137 (by decide +kernel) (by decide +kernel))⟩
theorem mw_X9_read : hv_MW m_X9_read 2 := ⟨(hv_in 1034 (by decide +kernel) (by decide +kernel)), by decide +kernel, (hv_in 127 (by decide +kernel) (by decide +kernel))⟩
theorem mw_X9_shift : hv_MW m_X9_shift 5 := ⟨(hv_in 1038 (by decide +kernel) (by decide +kernel)), by decide +kernel, (hv_in 127 (by decide +kernel) (by decide +kernel))⟩
theorem mw_X7_holds : hv_MW m_X7_holds 3 := ⟨(hv_in 1042 (by decide +kernel) (by decide +kernel)), by decide +kernel, (hv_in 137 (by decide +kernel) (by decide +kernel))⟩
theorem mw_X7_copy : hv_MW m_X7_copy 5 := ⟨(hv_in 1046 (by decide +kernel) (by decide +kernel)), by decide +kernel, (hv_in 137 (by decide +kernel) (by decide +kernel))⟩
theorem mw_X10_init : hv_MW m_X10_init 0 := ⟨(hv_in 1054 (by decide +kernel) (by decide +kernel)), by decide +kernel, (hv_in 138 (by decide +kernel) (by decide +kernel))⟩
theorem mw_X10_member : hv_MW m_X10_member 0 := ⟨(hv_in 1217 (by decide +kernel) (by decide +kernel)), by decide +kernel, (hv_in 138 (by decide +kernel) (by decide +kernel))⟩
theorem mw_X10_put : hv_MW m_X10_put 5 := ⟨(hv_in 1221 (by decide +kernel) (by decide +kernel)), by decide +kernel, (hv_in 138 (by decide +kernel) (by decide +kernel))⟩
theorem mw_X10_think : hv_MW m_X10_think 4 := ⟨(hv_in 1225 (by decide +kernel) (by decide +kernel)), by decide +kernel, (hv_in 138 (by decide +kernel) (by decide +kernel))⟩
theorem mw_X10_isMember : hv_MW m_X10_isMember 1 := ⟨(hv_in 1229 (by decide +kernel) (by decide +kernel)), by decide +kernel, (hv_in 138 (by decide +kernel) (by decide +kernel))⟩
theorem mw_X10_in : hv_MW m_X10_in 3 := ⟨(hv_in 1233 (by decide +kernel) (by decide +kernel)), by decide +kernel, (hv_in 138 (by decide +kernel) (by decide +kernel))⟩
theorem mw_X10_isMatter : hv_MW m_X10_isMatter 1 := ⟨(hv_in 1237 (by decide +kernel) (by decide +kernel)), by decide +kernel, (hv_in 138 (by decide +kernel) (by decide +kernel))⟩
theorem mw_X10_hand : hv_MW m_X10_hand 3 := ⟨(hv_in 1241 (by decide +kernel) (by decide +kernel)), by decide +kernel, (hv_in 138 (by decide +kernel) (by decide +kernel))⟩
theorem mw_X10_give : hv_MW m_X10_give 3 := ⟨(hv_in 1245 (by decide +kernel) (by decide +kernel)), by decide +kernel, (hv_in 138 (by decide +kernel) (by decide +kernel))⟩
theorem mw_X10_names : hv_MW m_X10_names 5 := ⟨(hv_in 1249 (by decide +kernel) (by decide +kernel)), by decide +kernel, (hv_in 138 (by decide +kernel) (by decide +kernel))⟩
theorem mw_X10_back : hv_MW m_X10_back 3 := ⟨(hv_in 1253 (by decide +kernel) (by decide +kernel)), by decide +kernel, (hv_in 138 (by decide +kernel) (by decide +kernel))⟩
theorem mw_X10_pass : hv_MW m_X10_pass 1 := ⟨(hv_in 1257 (by decide +kernel) (by decide +kernel)), by decide +kernel, (hv_in 138 (by decide +kernel) (by decide +kernel))⟩
theorem mw_X10_of : hv_MW m_X10_of 3 := ⟨(hv_in 1261 (by decide +kernel) (by decide +kernel)), by decide +kernel, (hv_in 138 (by decide +kernel) (by decide +kernel))⟩
theorem mw_X10_feed : hv_MW m_X10_feed 2 := ⟨(hv_in 1265 (by decide +kernel) (by decide +kernel)), by decide +kernel, (hv_in 138 (by decide +kernel) (by decide +kernel))⟩
theorem mw_X10_hall : hv_MW m_X10_hall 0 := ⟨(hv_in 1269 (by decide +kernel) (by decide +kernel)), by decide +kernel, (hv_in 138 (by decide +kernel) (by decide +kernel))⟩
theorem mw_X10_goes : hv_MW m_X10_goes 1 := ⟨(hv_in 1273 (by decide +kernel) (by decide +kernel)), by decide +kernel, (hv_in 138 (by decide +kernel) (by decide +kernel))⟩
theorem mw_X10_takesClause : hv_MW m_X10_takesClause 0 := ⟨(hv_in 1277 (by decide +kernel) (by decide +kernel)), by decide +kernel, (hv_in 138 (by decide +kernel) (by decide +kernel))⟩
theorem mw_X10_next : hv_MW m_X10_next 0 := ⟨(hv_in 1281 (by decide +kernel) (by decide +kernel)), by decide +kernel, (hv_in 138 (by decide +kernel) (by decide +kernel))⟩
theorem mw_X10_takesWord : hv_MW m_X10_takesWord 2 := ⟨(hv_in 1285 (by decide +kernel) (by decide +kernel)), by decide +kernel, (hv_in 138 (by decide +kernel) (by decide +kernel))⟩
theorem mw_X10_takes : hv_MW m_X10_takes 1 := ⟨(hv_in 1289 (by decide +kernel) (by decide +kernel)), by decide +kernel, (hv_in 138 (by decide +kernel) (by decide +kernel))⟩
theorem mw_X10_takesE : hv_MW m_X10_takesE 0 := ⟨(hv_in 1293 (by decide +kernel) (by decide +kernel)), by decide +kernel, (hv_in 138 (by decide +kernel) (by decide +kernel))⟩
theorem mw_X10_takesTest : hv_MW m_X10_takesTest 0 := ⟨(hv_in 1297 (by decide +kernel) (by decide +kernel)), by decide +kernel, (hv_in 138 (by decide +kernel) (by decide +kernel))⟩
theorem mw_X10_takesNumber : hv_MW m_X10_takesNumber 1 := ⟨(hv_in 1301 (by decide +kernel) (by decide +kernel)), by decide +kernel, (hv_in 138 (by decide +kernel) (by decide +kernel))⟩
theorem mw_X10_isDigit : hv_MW m_X10_isDigit 0 := ⟨(hv_in 1305 (by decide +kernel) (by decide +kernel)), by decide +kernel, (hv_in 138 (by decide +kernel) (by decide +kernel))⟩
theorem mw_X10_push : hv_MW m_X10_push 1 := ⟨(hv_in 1309 (by decide +kernel) (by decide +kernel)), by decide +kernel, (hv_in 138 (by decide +kernel) (by decide +kernel))⟩
theorem mw_X10_settleSigns : hv_MW m_X10_settleSigns 1 := ⟨(hv_in 1313 (by decide +kernel) (by decide +kernel)), by decide +kernel, (hv_in 138 (by decide +kernel) (by decide +kernel))⟩
theorem mw_X10_takesNeed : hv_MW m_X10_takesNeed 0 := ⟨(hv_in 1317 (by decide +kernel) (by decide +kernel)), by decide +kernel, (hv_in 138 (by decide +kernel) (by decide +kernel))⟩
theorem mw_X10_barred : hv_MW m_X10_barred 3 := ⟨(hv_in 1323 (by decide +kernel) (by decide +kernel)), by decide +kernel, (hv_in 138 (by decide +kernel) (by decide +kernel))⟩
theorem mw_X10_isBar : hv_MW m_X10_isBar 3 := ⟨(hv_in 1327 (by decide +kernel) (by decide +kernel)), by decide +kernel, (hv_in 138 (by decide +kernel) (by decide +kernel))⟩
theorem mw_X10_share : hv_MW m_X10_share 3 := ⟨(hv_in 1331 (by decide +kernel) (by decide +kernel)), by decide +kernel, (hv_in 138 (by decide +kernel) (by decide +kernel))⟩
theorem mw_X10_findAll : hv_MW m_X10_findAll 2 := ⟨(hv_in 1335 (by decide +kernel) (by decide +kernel)), by decide +kernel, (hv_in 138 (by decide +kernel) (by decide +kernel))⟩
theorem mw_X10_findHands : hv_MW m_X10_findHands 2 := ⟨(hv_in 1339 (by decide +kernel) (by decide +kernel)), by decide +kernel, (hv_in 138 (by decide +kernel) (by decide +kernel))⟩
theorem mw_X10_findHand : hv_MW m_X10_findHand 2 := ⟨(hv_in 1343 (by decide +kernel) (by decide +kernel)), by decide +kernel, (hv_in 138 (by decide +kernel) (by decide +kernel))⟩
theorem mw_X10_hands : hv_MW m_X10_hands 4 := ⟨(hv_in 1347 (by decide +kernel) (by decide +kernel)), by decide +kernel, (hv_in 138 (by decide +kernel) (by decide +kernel))⟩
theorem mw_X10_surestOf : hv_MW m_X10_surestOf 2 := ⟨(hv_in 1351 (by decide +kernel) (by decide +kernel)), by decide +kernel, (hv_in 138 (by decide +kernel) (by decide +kernel))⟩
theorem mw_X10_findBest : hv_MW m_X10_findBest 1 := ⟨(hv_in 1355 (by decide +kernel) (by decide +kernel)), by decide +kernel, (hv_in 138 (by decide +kernel) (by decide +kernel))⟩
theorem mw_X10_isOrder : hv_MW m_X10_isOrder 2 := ⟨(hv_in 1359 (by decide +kernel) (by decide +kernel)), by decide +kernel, (hv_in 138 (by decide +kernel) (by decide +kernel))⟩
theorem mw_X10_putOrders : hv_MW m_X10_putOrders 2 := ⟨(hv_in 1363 (by decide +kernel) (by decide +kernel)), by decide +kernel, (hv_in 138 (by decide +kernel) (by decide +kernel))⟩
theorem mw_X10_has : hv_MW m_X10_has 2 := ⟨(hv_in 1367 (by decide +kernel) (by decide +kernel)), by decide +kernel, (hv_in 138 (by decide +kernel) (by decide +kernel))⟩
theorem mw_X10_lostNow : hv_MW m_X10_lostNow 0 := ⟨(hv_in 1371 (by decide +kernel) (by decide +kernel)), by decide +kernel, (hv_in 138 (by decide +kernel) (by decide +kernel))⟩
theorem mw_X10_ones : hv_MW m_X10_ones 1 := ⟨(hv_in 1375 (by decide +kernel) (by decide +kernel)), by decide +kernel, (hv_in 138 (by decide +kernel) (by decide +kernel))⟩
theorem mw_X10_voices : hv_MW m_X10_voices 3 := ⟨(hv_in 1379 (by decide +kernel) (by decide +kernel)), by decide +kernel, (hv_in 138 (by decide +kernel) (by decide +kernel))⟩
theorem mw_X10_findVoices : hv_MW m_X10_findVoices 2 := ⟨(hv_in 1384 (by decide +kernel) (by decide +kernel)), by decide +kernel, (hv_in 138 (by decide +kernel) (by decide +kernel))⟩
theorem mw_X10_unroll : hv_MW m_X10_unroll 0 := ⟨(hv_in 1388 (by decide +kernel) (by decide +kernel)), by decide +kernel, (hv_in 138 (by decide +kernel) (by decide +kernel))⟩
theorem mw_X10_part : hv_MW m_X10_part 3 := ⟨(hv_in 1393 (by decide +kernel) (by decide +kernel)), by decide +kernel, (hv_in 138 (by decide +kernel) (by decide +kernel))⟩
theorem mw_X10_divisor : hv_MW m_X10_divisor 2 := ⟨(hv_in 1397 (by decide +kernel) (by decide +kernel)), by decide +kernel, (hv_in 138 (by decide +kernel) (by decide +kernel))⟩
theorem mw_X10_lost : hv_MW m_X10_lost 1 := ⟨(hv_in 1401 (by decide +kernel) (by decide +kernel)), by decide +kernel, (hv_in 138 (by decide +kernel) (by decide +kernel))⟩
theorem mw_X10_decided : hv_MW m_X10_decided 1 := ⟨(hv_in 1405 (by decide +kernel) (by decide +kernel)), by decide +kernel, (hv_in 138 (by decide +kernel) (by decide +kernel))⟩
theorem mw_X10_thinks : hv_MW m_X10_thinks 1 := ⟨(hv_in 1409 (by decide +kernel) (by decide +kernel)), by decide +kernel, (hv_in 138 (by decide +kernel) (by decide +kernel))⟩
theorem mw_X10_decides : hv_MW m_X10_decides 1 := ⟨(hv_in 1413 (by decide +kernel) (by decide +kernel)), by decide +kernel, (hv_in 138 (by decide +kernel) (by decide +kernel))⟩
theorem mw_X10_turning : hv_MW m_X10_turning 1 := ⟨(hv_in 1417 (by decide +kernel) (by decide +kernel)), by decide +kernel, (hv_in 138 (by decide +kernel) (by decide +kernel))⟩
theorem mw_X10_power : hv_MW m_X10_power 2 := ⟨(hv_in 1421 (by decide +kernel) (by decide +kernel)), by decide +kernel, (hv_in 138 (by decide +kernel) (by decide +kernel))⟩
theorem mw_X10_speaking : hv_MW m_X10_speaking 0 := ⟨(hv_in 1425 (by decide +kernel) (by decide +kernel)), by decide +kernel, (hv_in 138 (by decide +kernel) (by decide +kernel))⟩
theorem mw_X10_few : hv_MW m_X10_few 1 := ⟨(hv_in 1429 (by decide +kernel) (by decide +kernel)), by decide +kernel, (hv_in 138 (by decide +kernel) (by decide +kernel))⟩
theorem mw_X10_best : hv_MW m_X10_best 2 := ⟨(hv_in 1433 (by decide +kernel) (by decide +kernel)), by decide +kernel, (hv_in 138 (by decide +kernel) (by decide +kernel))⟩
theorem mw_X10_right : hv_MW m_X10_right 3 := ⟨(hv_in 1437 (by decide +kernel) (by decide +kernel)), by decide +kernel, (hv_in 138 (by decide +kernel) (by decide +kernel))⟩
theorem mw_X10_findAlone : hv_MW m_X10_findAlone 0 := ⟨(hv_in 1441 (by decide +kernel) (by decide +kernel)), by decide +kernel, (hv_in 138 (by decide +kernel) (by decide +kernel))⟩
theorem mw_X10_findRight : hv_MW m_X10_findRight 1 := ⟨(hv_in 1445 (by decide +kernel) (by decide +kernel)), by decide +kernel, (hv_in 138 (by decide +kernel) (by decide +kernel))⟩
theorem mw_X10_surest : hv_MW m_X10_surest 1 := ⟨(hv_in 1449 (by decide +kernel) (by decide +kernel)), by decide +kernel, (hv_in 138 (by decide +kernel) (by decide +kernel))⟩
theorem mw_X10_breach : hv_MW m_X10_breach 1 := ⟨(hv_in 1453 (by decide +kernel) (by decide +kernel)), by decide +kernel, (hv_in 138 (by decide +kernel) (by decide +kernel))⟩
theorem mw_X10_keep : hv_MW m_X10_keep 2 := ⟨(hv_in 1457 (by decide +kernel) (by decide +kernel)), by decide +kernel, (hv_in 138 (by decide +kernel) (by decide +kernel))⟩
theorem mw_X10_putBack : hv_MW m_X10_putBack 2 := ⟨(hv_in 1461 (by decide +kernel) (by decide +kernel)), by decide +kernel, (hv_in 138 (by decide +kernel) (by decide +kernel))⟩
theorem mw_X10_isLess : hv_MW m_X10_isLess 4 := ⟨(hv_in 1465 (by decide +kernel) (by decide +kernel)), by decide +kernel, (hv_in 138 (by decide +kernel) (by decide +kernel))⟩
theorem mw_X10_rather : hv_MW m_X10_rather 1 := ⟨(hv_in 1469 (by decide +kernel) (by decide +kernel)), by decide +kernel, (hv_in 138 (by decide +kernel) (by decide +kernel))⟩
theorem mw_X10_ratherOf : hv_MW m_X10_ratherOf 1 := ⟨(hv_in 1473 (by decide +kernel) (by decide +kernel)), by decide +kernel, (hv_in 138 (by decide +kernel) (by decide +kernel))⟩
theorem mw_X10_settle : hv_MW m_X10_settle 1 := ⟨(hv_in 1477 (by decide +kernel) (by decide +kernel)), by decide +kernel, (hv_in 138 (by decide +kernel) (by decide +kernel))⟩
theorem mw_X10_heap : hv_MW m_X10_heap 2 := ⟨(hv_in 1481 (by decide +kernel) (by decide +kernel)), by decide +kernel, (hv_in 138 (by decide +kernel) (by decide +kernel))⟩
theorem mw_X10_heapOf : hv_MW m_X10_heapOf 0 := ⟨(hv_in 1485 (by decide +kernel) (by decide +kernel)), by decide +kernel, (hv_in 138 (by decide +kernel) (by decide +kernel))⟩
theorem mw_X10_mend : hv_MW m_X10_mend 3 := ⟨(hv_in 1489 (by decide +kernel) (by decide +kernel)), by decide +kernel, (hv_in 138 (by decide +kernel) (by decide +kernel))⟩
theorem mw_X10_asSelf : hv_MW m_X10_asSelf 2 := ⟨(hv_in 1493 (by decide +kernel) (by decide +kernel)), by decide +kernel, (hv_in 138 (by decide +kernel) (by decide +kernel))⟩
theorem mw_X10_asBefore : hv_MW m_X10_asBefore 1 := ⟨(hv_in 1497 (by decide +kernel) (by decide +kernel)), by decide +kernel, (hv_in 138 (by decide +kernel) (by decide +kernel))⟩
theorem mw_X10_late : hv_MW m_X10_late 1 := ⟨(hv_in 1501 (by decide +kernel) (by decide +kernel)), by decide +kernel, (hv_in 138 (by decide +kernel) (by decide +kernel))⟩
theorem mw_X10_fewest : hv_MW m_X10_fewest 1 := ⟨(hv_in 1505 (by decide +kernel) (by decide +kernel)), by decide +kernel, (hv_in 138 (by decide +kernel) (by decide +kernel))⟩
theorem mw_X10_table : hv_MW m_X10_table 3 := ⟨(hv_in 1509 (by decide +kernel) (by decide +kernel)), by decide +kernel, (hv_in 138 (by decide +kernel) (by decide +kernel))⟩
theorem mw_X10_isTape : hv_MW m_X10_isTape 1 := ⟨(hv_in 1513 (by decide +kernel) (by decide +kernel)), by decide +kernel, (hv_in 138 (by decide +kernel) (by decide +kernel))⟩
theorem mw_X10_act : hv_MW m_X10_act 4 := ⟨(hv_in 1517 (by decide +kernel) (by decide +kernel)), by decide +kernel, (hv_in 138 (by decide +kernel) (by decide +kernel))⟩
theorem mw_X10_gives : hv_MW m_X10_gives 3 := ⟨(hv_in 1521 (by decide +kernel) (by decide +kernel)), by decide +kernel, (hv_in 138 (by decide +kernel) (by decide +kernel))⟩
theorem mw_X10_body : hv_MW m_X10_body 1 := ⟨(hv_in 1525 (by decide +kernel) (by decide +kernel)), by decide +kernel, (hv_in 138 (by decide +kernel) (by decide +kernel))⟩
theorem mw_X10_giveGives : hv_MW m_X10_giveGives 2 := ⟨(hv_in 1529 (by decide +kernel) (by decide +kernel)), by decide +kernel, (hv_in 138 (by decide +kernel) (by decide +kernel))⟩
theorem mw_X10_plainGives : hv_MW m_X10_plainGives 2 := ⟨(hv_in 1533 (by decide +kernel) (by decide +kernel)), by decide +kernel, (hv_in 138 (by decide +kernel) (by decide +kernel))⟩
theorem mw_X10_holds : hv_MW m_X10_holds 3 := ⟨(hv_in 1537 (by decide +kernel) (by decide +kernel)), by decide +kernel, (hv_in 138 (by decide +kernel) (by decide +kernel))⟩
theorem mw_X10_giveHolds : hv_MW m_X10_giveHolds 3 := ⟨(hv_in 1541 (by decide +kernel) (by decide +kernel)), by decide +kernel, (hv_in 138 (by decide +kernel) (by decide +kernel))⟩
theorem mw_X10_plainHolds : hv_MW m_X10_plainHolds 3 := ⟨(hv_in 1545 (by decide +kernel) (by decide +kernel)), by decide +kernel, (hv_in 138 (by decide +kernel) (by decide +kernel))⟩
theorem mw_X10_tells : hv_MW m_X10_tells 3 := ⟨(hv_in 1549 (by decide +kernel) (by decide +kernel)), by decide +kernel, (hv_in 138 (by decide +kernel) (by decide +kernel))⟩
theorem mw_X10_plainTells : hv_MW m_X10_plainTells 3 := ⟨(hv_in 1553 (by decide +kernel) (by decide +kernel)), by decide +kernel, (hv_in 138 (by decide +kernel) (by decide +kernel))⟩
theorem mw_X10_trace : hv_MW m_X10_trace 1 := ⟨(hv_in 1557 (by decide +kernel) (by decide +kernel)), by decide +kernel, (hv_in 138 (by decide +kernel) (by decide +kernel))⟩
theorem mw_X10_taken : hv_MW m_X10_taken 3 := ⟨(hv_in 1561 (by decide +kernel) (by decide +kernel)), by decide +kernel, (hv_in 138 (by decide +kernel) (by decide +kernel))⟩
theorem mw_X10_count : hv_MW m_X10_count 1 := ⟨(hv_in 1565 (by decide +kernel) (by decide +kernel)), by decide +kernel, (hv_in 138 (by decide +kernel) (by decide +kernel))⟩
theorem mw_X10_tape : hv_MW m_X10_tape 3 := ⟨(hv_in 1569 (by decide +kernel) (by decide +kernel)), by decide +kernel, (hv_in 138 (by decide +kernel) (by decide +kernel))⟩
theorem mw_X10_item : hv_MW m_X10_item 3 := ⟨(hv_in 1573 (by decide +kernel) (by decide +kernel)), by decide +kernel, (hv_in 138 (by decide +kernel) (by decide +kernel))⟩
theorem mw_X10_narrow : hv_MW m_X10_narrow 2 := ⟨(hv_in 1577 (by decide +kernel) (by decide +kernel)), by decide +kernel, (hv_in 138 (by decide +kernel) (by decide +kernel))⟩
theorem mw_X10_read : hv_MW m_X10_read 2 := ⟨(hv_in 1581 (by decide +kernel) (by decide +kernel)), by decide +kernel, (hv_in 138 (by decide +kernel) (by decide +kernel))⟩
theorem mw_X10_shift : hv_MW m_X10_shift 5 := ⟨(hv_in 1585 (by decide +kernel) (by decide +kernel)), by decide +kernel, (hv_in 138 (by decide +kernel) (by decide +kernel))⟩
theorem ms_X2_33 : hv_MS RX2 33 m_J7_fill_53178 2 := ⟨mw_J7_fill_53178, (hv_in 161 (by decide +kernel) (by decide +kernel)), (Or.inl (hv_in 160 (by decide +kernel) (by decide +kernel)))⟩
theorem mv_X4_15 : hv_MV RX4 15 4 m_X4_clear 0 := ⟨mw_X4_clear, (hv_in 226 (by decide +kernel) (by decide +kernel)), (hv_in 0 (by decide +kernel) (by decide +kernel)), ⟨TX4, 6, rfl⟩, (Or.inl (hv_in 224 (by decide +kernel) (by decide +kernel)))⟩
theorem ms_X7_20 : hv_MS RX7 20 m_J7_fill_53178 2 := ⟨mw_J7_fill_53178, (hv_in 161 (by decide +kernel) (by decide +kernel)), (Or.inl (hv_in 448 (by decide +kernel) (by decide +kernel)))⟩
theorem mv_L_13 : hv_MV RL 13 9 m_X9_member 0 := ⟨mw_X9_member, (hv_in 487 (by decide +kernel) (by decide +kernel)), (hv_in 488 (by decide +kernel) (by decide +kernel)), ⟨TX9, 8, rfl⟩, (Or.inl (hv_in 486 (by decide +kernel) (by decide +kernel)))⟩
theorem mv_L_18 : hv_MV RL 18 9 m_X9_think 4 := ⟨mw_X9_think, (hv_in 491 (by decide +kernel) (by decide +kernel)), (hv_in 492 (by decide +kernel) (by decide +kernel)), ⟨TX9, 8, rfl⟩, (Or.inl (hv_in 490 (by decide +kernel) (by decide +kernel)))⟩
theorem mv_X9_79 : hv_MV RX9 79 2 m_X2_sits 1 := ⟨mw_X2_sits, (hv_in 496 (by decide +kernel) (by decide +kernel)), (hv_in 1 (by decide +kernel) (by decide +kernel)), ⟨TX2, 9, rfl⟩, (Or.inr ⟨"HandedVoices", (hv_inN 368 (by decide +kernel) rfl)⟩)⟩
theorem ms_X9_83 : hv_MS RX9 83 m_X9_isMatter 1 := ⟨mw_X9_isMatter, (hv_in 499 (by decide +kernel) (by decide +kernel)), (Or.inl (hv_in 498 (by decide +kernel) (by decide +kernel)))⟩
theorem mv_X9_86 : hv_MV RX9 86 2 m_X2_opinion 2 := ⟨mw_X2_opinion, (hv_in 503 (by decide +kernel) (by decide +kernel)), (hv_in 2 (by decide +kernel) (by decide +kernel)), ⟨TX2, 9, rfl⟩, (Or.inr ⟨"HandedVoices", (hv_inN 375 (by decide +kernel) rfl)⟩)⟩
theorem ms_X9_94 : hv_MS RX9 94 m_X9_cell 2 := ⟨mw_X9_cell, (hv_in 506 (by decide +kernel) (by decide +kernel)), (Or.inl (hv_in 505 (by decide +kernel) (by decide +kernel)))⟩
theorem mv_X9_97 : hv_MV RX9 97 2 m_X2_form 4 := ⟨mw_X2_form, (hv_in 510 (by decide +kernel) (by decide +kernel)), (hv_in 3 (by decide +kernel) (by decide +kernel)), ⟨TX2, 9, rfl⟩, (Or.inr ⟨"HandedVoices", (hv_inN 382 (by decide +kernel) rfl)⟩)⟩
theorem ms_X2_43 : hv_MS RX2 43 m_X9_cell 2 := ⟨mw_X9_cell, (hv_in 506 (by decide +kernel) (by decide +kernel)), (Or.inr ⟨"HandedVoices", (hv_inN 386 (by decide +kernel) rfl)⟩)⟩
theorem mv_X9_101 : hv_MV RX9 101 3 m_X3_learn 1 := ⟨mw_X3_learn, (hv_in 515 (by decide +kernel) (by decide +kernel)), (hv_in 4 (by decide +kernel) (by decide +kernel)), ⟨TX3, 5, rfl⟩, (Or.inr ⟨"HandedVoices", (hv_inN 387 (by decide +kernel) rfl)⟩)⟩
theorem ms_X3_37 : hv_MS RX3 37 m_X9_cell 2 := ⟨mw_X9_cell, (hv_in 506 (by decide +kernel) (by decide +kernel)), (Or.inr ⟨"HandedVoices", (hv_inN 391 (by decide +kernel) rfl)⟩)⟩
theorem mv_X3_44 : hv_MV RX3 44 3 m_X3_maskOf 2 := ⟨mw_X3_maskOf, (hv_in 520 (by decide +kernel) (by decide +kernel)), (hv_in 5 (by decide +kernel) (by decide +kernel)), ⟨TX3, 5, rfl⟩, (Or.inl (hv_in 518 (by decide +kernel) (by decide +kernel)))⟩
theorem mv_X3_52 : hv_MV RX3 52 4 m_X4_forbid 1 := ⟨mw_X4_forbid, (hv_in 524 (by decide +kernel) (by decide +kernel)), (hv_in 6 (by decide +kernel) (by decide +kernel)), ⟨TX4, 6, rfl⟩, (Or.inr ⟨"HandedVoices", (hv_inN 396 (by decide +kernel) rfl)⟩)⟩
theorem ms_X4_35 : hv_MS RX4 35 m_X4_isTrue 2 := ⟨mw_X4_isTrue, (hv_in 527 (by decide +kernel) (by decide +kernel)), (Or.inl (hv_in 526 (by decide +kernel) (by decide +kernel)))⟩
theorem mv_L_23 : hv_MV RL 23 9 m_X9_hand 3 := ⟨mw_X9_hand, (hv_in 530 (by decide +kernel) (by decide +kernel)), (hv_in 531 (by decide +kernel) (by decide +kernel)), ⟨TX9, 8, rfl⟩, (Or.inl (hv_in 529 (by decide +kernel) (by decide +kernel)))⟩
theorem mv_X9_105 : hv_MV RX9 105 2 m_X2_renew 5 := ⟨mw_X2_renew, (hv_in 535 (by decide +kernel) (by decide +kernel)), (hv_in 7 (by decide +kernel) (by decide +kernel)), ⟨TX2, 9, rfl⟩, (Or.inr ⟨"HandedVoices", (hv_inN 407 (by decide +kernel) rfl)⟩)⟩
theorem mv_L_28 : hv_MV RL 28 9 m_X9_give 3 := ⟨mw_X9_give, (hv_in 538 (by decide +kernel) (by decide +kernel)), (hv_in 539 (by decide +kernel) (by decide +kernel)), ⟨TX9, 8, rfl⟩, (Or.inl (hv_in 537 (by decide +kernel) (by decide +kernel)))⟩
theorem mv_L_32 : hv_MV RL 32 9 m_X9_names 5 := ⟨mw_X9_names, (hv_in 542 (by decide +kernel) (by decide +kernel)), (hv_in 543 (by decide +kernel) (by decide +kernel)), ⟨TX9, 8, rfl⟩, (Or.inl (hv_in 541 (by decide +kernel) (by decide +kernel)))⟩
theorem mv_L_37 : hv_MV RL 37 9 m_X9_back 3 := ⟨mw_X9_back, (hv_in 546 (by decide +kernel) (by decide +kernel)), (hv_in 547 (by decide +kernel) (by decide +kernel)), ⟨TX9, 8, rfl⟩, (Or.inl (hv_in 545 (by decide +kernel) (by decide +kernel)))⟩
theorem mv_L_41 : hv_MV RL 41 9 m_X9_pass 1 := ⟨mw_X9_pass, (hv_in 550 (by decide +kernel) (by decide +kernel)), (hv_in 551 (by decide +kernel) (by decide +kernel)), ⟨TX9, 8, rfl⟩, (Or.inl (hv_in 549 (by decide +kernel) (by decide +kernel)))⟩
theorem mv_L_46 : hv_MV RL 46 9 m_X9_of 3 := ⟨mw_X9_of, (hv_in 554 (by decide +kernel) (by decide +kernel)), (hv_in 555 (by decide +kernel) (by decide +kernel)), ⟨TX9, 8, rfl⟩, (Or.inl (hv_in 553 (by decide +kernel) (by decide +kernel)))⟩
theorem mv_L_50 : hv_MV RL 50 9 m_X9_feed 2 := ⟨mw_X9_feed, (hv_in 558 (by decide +kernel) (by decide +kernel)), (hv_in 559 (by decide +kernel) (by decide +kernel)), ⟨TX9, 8, rfl⟩, (Or.inl (hv_in 557 (by decide +kernel) (by decide +kernel)))⟩
theorem mv_X9_130 : hv_MV RX9 130 1 m_X1_append 1 := ⟨mw_X1_append, (hv_in 563 (by decide +kernel) (by decide +kernel)), (hv_in 8 (by decide +kernel) (by decide +kernel)), ⟨TX1, 6, rfl⟩, (Or.inr ⟨"HandedVoices", (hv_inN 435 (by decide +kernel) rfl)⟩)⟩
theorem mv_L_55 : hv_MV RL 55 9 m_X9_hall 0 := ⟨mw_X9_hall, (hv_in 566 (by decide +kernel) (by decide +kernel)), (hv_in 567 (by decide +kernel) (by decide +kernel)), ⟨TX9, 8, rfl⟩, (Or.inl (hv_in 565 (by decide +kernel) (by decide +kernel)))⟩
theorem mv_X9_133 : hv_MV RX9 133 1 m_X1_fault 0 := ⟨mw_X1_fault, (hv_in 571 (by decide +kernel) (by decide +kernel)), (hv_in 9 (by decide +kernel) (by decide +kernel)), ⟨TX1, 6, rfl⟩, (Or.inr ⟨"HandedVoices", (hv_inN 443 (by decide +kernel) rfl)⟩)⟩
theorem mv_X1_27 : hv_MV RX1 27 4 m_X4_clear 0 := ⟨mw_X4_clear, (hv_in 226 (by decide +kernel) (by decide +kernel)), (hv_in 0 (by decide +kernel) (by decide +kernel)), ⟨TX4, 6, rfl⟩, (Or.inr ⟨"HandedVoices", (hv_inN 447 (by decide +kernel) rfl)⟩)⟩
theorem mv_X1_30 : hv_MV RX1 30 1 m_X1_clause 0 := ⟨mw_X1_clause, (hv_in 576 (by decide +kernel) (by decide +kernel)), (hv_in 10 (by decide +kernel) (by decide +kernel)), ⟨TX1, 6, rfl⟩, (Or.inl (hv_in 574 (by decide +kernel) (by decide +kernel)))⟩
theorem mv_X1_34 : hv_MV RX1 34 1 m_X1_seen 0 := ⟨mw_X1_seen, (hv_in 580 (by decide +kernel) (by decide +kernel)), (hv_in 11 (by decide +kernel) (by decide +kernel)), ⟨TX1, 6, rfl⟩, (Or.inl (hv_in 578 (by decide +kernel) (by decide +kernel)))⟩
theorem mv_X1_40 : hv_MV RX1 40 1 m_X1_word 1 := ⟨mw_X1_word, (hv_in 585 (by decide +kernel) (by decide +kernel)), (hv_in 12 (by decide +kernel) (by decide +kernel)), ⟨TX1, 6, rfl⟩, (Or.inl (hv_in 583 (by decide +kernel) (by decide +kernel)))⟩
theorem ms_J0_495 : hv_MS RJ0 495 m_J1_charAt_3b067 2 := ⟨mw_J1_charAt_3b067, (hv_in 606 (by decide +kernel) (by decide +kernel)), (Or.inl (hv_in 605 (by decide +kernel) (by decide +kernel)))⟩
theorem ms_J1_9 : hv_MS RJ1 9 m_J0_checkIndex_df160 2 := ⟨mw_J0_checkIndex_df160, (hv_in 609 (by decide +kernel) (by decide +kernel)), (Or.inl (hv_in 608 (by decide +kernel) (by decide +kernel)))⟩
theorem ms_J0_1059 : hv_MS RJ0 1059 m_J3_checkIndex_8e157 3 := ⟨mw_J3_checkIndex_8e157, (hv_in 614 (by decide +kernel) (by decide +kernel)), (Or.inl (hv_in 613 (by decide +kernel) (by decide +kernel)))⟩
theorem ms_J0_498 : hv_MS RJ0 498 m_J2_charAt_3b067 2 := ⟨mw_J2_charAt_3b067, (hv_in 617 (by decide +kernel) (by decide +kernel)), (Or.inl (hv_in 616 (by decide +kernel) (by decide +kernel)))⟩
theorem ms_J2_67 : hv_MS RJ2 67 m_J2_checkIndex_2214a 2 := ⟨mw_J2_checkIndex_2214a, (hv_in 620 (by decide +kernel) (by decide +kernel)), (Or.inl (hv_in 619 (by decide +kernel) (by decide +kernel)))⟩
theorem ms_J2_48 : hv_MS RJ2 48 m_J2_length_9d52b 1 := ⟨mw_J2_length_9d52b, (hv_in 623 (by decide +kernel) (by decide +kernel)), (Or.inl (hv_in 622 (by decide +kernel) (by decide +kernel)))⟩
theorem ms_J2_414 : hv_MS RJ2 414 m_J0_checkIndex_df160 2 := ⟨mw_J0_checkIndex_df160, (hv_in 609 (by decide +kernel) (by decide +kernel)), (Or.inl (hv_in 625 (by decide +kernel) (by decide +kernel)))⟩
theorem ms_J2_71 : hv_MS RJ2 71 m_J2_getChar_3b067 2 := ⟨mw_J2_getChar_3b067, (hv_in 627 (by decide +kernel) (by decide +kernel)), (Or.inl (hv_in 626 (by decide +kernel) (by decide +kernel)))⟩
theorem mv_X1_44 : hv_MV RX1 44 1 m_X1_either 1 := ⟨mw_X1_either, (hv_in 637 (by decide +kernel) (by decide +kernel)), (hv_in 13 (by decide +kernel) (by decide +kernel)), ⟨TX1, 6, rfl⟩, (Or.inl (hv_in 635 (by decide +kernel) (by decide +kernel)))⟩
theorem mv_X1_93 : hv_MV RX1 93 1 m_X1_single 1 := ⟨mw_X1_single, (hv_in 641 (by decide +kernel) (by decide +kernel)), (hv_in 14 (by decide +kernel) (by decide +kernel)), ⟨TX1, 6, rfl⟩, (Or.inl (hv_in 639 (by decide +kernel) (by decide +kernel)))⟩
theorem mv_X1_100 : hv_MV RX1 100 1 m_X1_test 0 := ⟨mw_X1_test, (hv_in 645 (by decide +kernel) (by decide +kernel)), (hv_in 15 (by decide +kernel) (by decide +kernel)), ⟨TX1, 6, rfl⟩, (Or.inl (hv_in 643 (by decide +kernel) (by decide +kernel)))⟩
theorem mv_X1_105 : hv_MV RX1 105 1 m_X1_signOf 1 := ⟨mw_X1_signOf, (hv_in 650 (by decide +kernel) (by decide +kernel)), (hv_in 16 (by decide +kernel) (by decide +kernel)), ⟨TX1, 6, rfl⟩, (Or.inl (hv_in 648 (by decide +kernel) (by decide +kernel)))⟩
theorem mv_X1_50 : hv_MV RX1 50 1 m_X1_figuresOf 0 := ⟨mw_X1_figuresOf, (hv_in 655 (by decide +kernel) (by decide +kernel)), (hv_in 17 (by decide +kernel) (by decide +kernel)), ⟨TX1, 6, rfl⟩, (Or.inl (hv_in 653 (by decide +kernel) (by decide +kernel)))⟩
theorem ms_X1_111 : hv_MS RX1 111 m_X4_test 3 := ⟨mw_X4_test, (hv_in 658 (by decide +kernel) (by decide +kernel)), (Or.inr ⟨"HandedVoices", (hv_inN 531 (by decide +kernel) rfl)⟩)⟩
theorem mv_X1_96 : hv_MV RX1 96 4 m_X4_add 1 := ⟨mw_X4_add, (hv_in 662 (by decide +kernel) (by decide +kernel)), (hv_in 18 (by decide +kernel) (by decide +kernel)), ⟨TX4, 6, rfl⟩, (Or.inr ⟨"HandedVoices", (hv_inN 534 (by decide +kernel) rfl)⟩)⟩
theorem mv_X1_61 : hv_MV RX1 61 1 m_X1_need 0 := ⟨mw_X1_need, (hv_in 668 (by decide +kernel) (by decide +kernel)), (hv_in 19 (by decide +kernel) (by decide +kernel)), ⟨TX1, 6, rfl⟩, (Or.inl (hv_in 666 (by decide +kernel) (by decide +kernel)))⟩
theorem mv_X1_66 : hv_MV RX1 66 1 m_X1_ring 0 := ⟨mw_X1_ring, (hv_in 674 (by decide +kernel) (by decide +kernel)), (hv_in 20 (by decide +kernel) (by decide +kernel)), ⟨TX1, 6, rfl⟩, (Or.inl (hv_in 672 (by decide +kernel) (by decide +kernel)))⟩
theorem mv_X9_141 : hv_MV RX9 141 3 m_X3_adopt 1 := ⟨mw_X3_adopt, (hv_in 678 (by decide +kernel) (by decide +kernel)), (hv_in 21 (by decide +kernel) (by decide +kernel)), ⟨TX3, 5, rfl⟩, (Or.inr ⟨"HandedVoices", (hv_inN 550 (by decide +kernel) rfl)⟩)⟩
theorem mv_X3_33 : hv_MV RX3 33 3 m_X3_learn 1 := ⟨mw_X3_learn, (hv_in 515 (by decide +kernel) (by decide +kernel)), (hv_in 4 (by decide +kernel) (by decide +kernel)), ⟨TX3, 5, rfl⟩, (Or.inl (hv_in 680 (by decide +kernel) (by decide +kernel)))⟩
theorem mv_L_59 : hv_MV RL 59 9 m_X9_barred 3 := ⟨mw_X9_barred, (hv_in 683 (by decide +kernel) (by decide +kernel)), (hv_in 684 (by decide +kernel) (by decide +kernel)), ⟨TX9, 8, rfl⟩, (Or.inl (hv_in 682 (by decide +kernel) (by decide +kernel)))⟩
theorem mv_X9_148 : hv_MV RX9 148 3 m_X3_bars 3 := ⟨mw_X3_bars, (hv_in 688 (by decide +kernel) (by decide +kernel)), (hv_in 22 (by decide +kernel) (by decide +kernel)), ⟨TX3, 5, rfl⟩, (Or.inr ⟨"HandedVoices", (hv_inN 560 (by decide +kernel) rfl)⟩)⟩
theorem mv_L_63 : hv_MV RL 63 9 m_X9_share 3 := ⟨mw_X9_share, (hv_in 691 (by decide +kernel) (by decide +kernel)), (hv_in 692 (by decide +kernel) (by decide +kernel)), ⟨TX9, 8, rfl⟩, (Or.inl (hv_in 690 (by decide +kernel) (by decide +kernel)))⟩
theorem mv_X9_152 : hv_MV RX9 152 5 m_X5_lay 5 := ⟨mw_X5_lay, (hv_in 696 (by decide +kernel) (by decide +kernel)), (hv_in 23 (by decide +kernel) (by decide +kernel)), ⟨TX5, 11, rfl⟩, (Or.inr ⟨"HandedVoices", (hv_inN 568 (by decide +kernel) rfl)⟩)⟩
theorem mv_X5_26 : hv_MV RX5 26 5 m_X5_layFirm 5 := ⟨mw_X5_layFirm, (hv_in 700 (by decide +kernel) (by decide +kernel)), (hv_in 24 (by decide +kernel) (by decide +kernel)), ⟨TX5, 11, rfl⟩, (Or.inl (hv_in 698 (by decide +kernel) (by decide +kernel)))⟩
theorem ms_X5_54 : hv_MS RX5 54 m_J7_fill_53178 2 := ⟨mw_J7_fill_53178, (hv_in 161 (by decide +kernel) (by decide +kernel)), (Or.inl (hv_in 702 (by decide +kernel) (by decide +kernel)))⟩
theorem mv_X5_60 : hv_MV RX5 60 5 m_X5_send 3 := ⟨mw_X5_send, (hv_in 705 (by decide +kernel) (by decide +kernel)), (hv_in 25 (by decide +kernel) (by decide +kernel)), ⟨TX5, 11, rfl⟩, (Or.inl (hv_in 703 (by decide +kernel) (by decide +kernel)))⟩
theorem mv_X5_68 : hv_MV RX5 68 5 m_X5_stay 2 := ⟨mw_X5_stay, (hv_in 709 (by decide +kernel) (by decide +kernel)), (hv_in 26 (by decide +kernel) (by decide +kernel)), ⟨TX5, 11, rfl⟩, (Or.inl (hv_in 707 (by decide +kernel) (by decide +kernel)))⟩
theorem mv_X5_64 : hv_MV RX5 64 2 m_X2_isSelf 2 := ⟨mw_X2_isSelf, (hv_in 713 (by decide +kernel) (by decide +kernel)), (hv_in 27 (by decide +kernel) (by decide +kernel)), ⟨TX2, 9, rfl⟩, (Or.inr ⟨"HandedVoices", (hv_inN 585 (by decide +kernel) rfl)⟩)⟩
theorem mv_X5_75 : hv_MV RX5 75 5 m_X5_layHand 2 := ⟨mw_X5_layHand, (hv_in 717 (by decide +kernel) (by decide +kernel)), (hv_in 28 (by decide +kernel) (by decide +kernel)), ⟨TX5, 11, rfl⟩, (Or.inl (hv_in 715 (by decide +kernel) (by decide +kernel)))⟩
theorem mv_X5_83 : hv_MV RX5 83 2 m_X2_surestOf 2 := ⟨mw_X2_surestOf, (hv_in 721 (by decide +kernel) (by decide +kernel)), (hv_in 29 (by decide +kernel) (by decide +kernel)), ⟨TX2, 9, rfl⟩, (Or.inr ⟨"HandedVoices", (hv_inN 593 (by decide +kernel) rfl)⟩)⟩
theorem mv_X5_30 : hv_MV RX5 30 5 m_X5_layOrders 0 := ⟨mw_X5_layOrders, (hv_in 725 (by decide +kernel) (by decide +kernel)), (hv_in 30 (by decide +kernel) (by decide +kernel)), ⟨TX5, 11, rfl⟩, (Or.inl (hv_in 723 (by decide +kernel) (by decide +kernel)))⟩
theorem mv_X5_104 : hv_MV RX5 104 5 m_X5_seekWays 1 := ⟨mw_X5_seekWays, (hv_in 729 (by decide +kernel) (by decide +kernel)), (hv_in 31 (by decide +kernel) (by decide +kernel)), ⟨TX5, 11, rfl⟩, (Or.inl (hv_in 727 (by decide +kernel) (by decide +kernel)))⟩
theorem mv_X5_114 : hv_MV RX5 114 5 m_X5_openNames 1 := ⟨mw_X5_openNames, (hv_in 733 (by decide +kernel) (by decide +kernel)), (hv_in 32 (by decide +kernel) (by decide +kernel)), ⟨TX5, 11, rfl⟩, (Or.inl (hv_in 731 (by decide +kernel) (by decide +kernel)))⟩
theorem ms_X5_121 : hv_MS RX5 121 m_J6_bitCount_0f7a4 1 := ⟨mw_J6_bitCount_0f7a4, (hv_in 736 (by decide +kernel) (by decide +kernel)), (Or.inl (hv_in 735 (by decide +kernel) (by decide +kernel)))⟩
theorem mv_X5_127 : hv_MV RX5 127 5 m_X5_reachAll 1 := ⟨mw_X5_reachAll, (hv_in 743 (by decide +kernel) (by decide +kernel)), (hv_in 33 (by decide +kernel) (by decide +kernel)), ⟨TX5, 11, rfl⟩, (Or.inl (hv_in 741 (by decide +kernel) (by decide +kernel)))⟩
theorem mv_X5_111 : hv_MV RX5 111 5 m_X5_nameOf 2 := ⟨mw_X5_nameOf, (hv_in 747 (by decide +kernel) (by decide +kernel)), (hv_in 34 (by decide +kernel) (by decide +kernel)), ⟨TX5, 11, rfl⟩, (Or.inl (hv_in 745 (by decide +kernel) (by decide +kernel)))⟩
theorem mv_X5_131 : hv_MV RX5 131 5 m_X5_reaching 0 := ⟨mw_X5_reaching, (hv_in 751 (by decide +kernel) (by decide +kernel)), (hv_in 35 (by decide +kernel) (by decide +kernel)), ⟨TX5, 11, rfl⟩, (Or.inl (hv_in 749 (by decide +kernel) (by decide +kernel)))⟩
theorem mv_L_67 : hv_MV RL 67 9 m_X9_voices 3 := ⟨mw_X9_voices, (hv_in 754 (by decide +kernel) (by decide +kernel)), (hv_in 755 (by decide +kernel) (by decide +kernel)), ⟨TX9, 8, rfl⟩, (Or.inl (hv_in 753 (by decide +kernel) (by decide +kernel)))⟩
theorem ms_X9_157 : hv_MS RX9 157 m_X9_isPart 1 := ⟨mw_X9_isPart, (hv_in 758 (by decide +kernel) (by decide +kernel)), (Or.inl (hv_in 757 (by decide +kernel) (by decide +kernel)))⟩
theorem mv_X9_162 : hv_MV RX9 162 6 m_X6_reckonNow 1 := ⟨mw_X6_reckonNow, (hv_in 763 (by decide +kernel) (by decide +kernel)), (hv_in 36 (by decide +kernel) (by decide +kernel)), ⟨TX6, 10, rfl⟩, (Or.inr ⟨"HandedVoices", (hv_inN 635 (by decide +kernel) rfl)⟩)⟩
theorem mv_X6_52 : hv_MV RX6 52 6 m_X6_reckon 5 := ⟨mw_X6_reckon, (hv_in 767 (by decide +kernel) (by decide +kernel)), (hv_in 37 (by decide +kernel) (by decide +kernel)), ⟨TX6, 10, rfl⟩, (Or.inl (hv_in 765 (by decide +kernel) (by decide +kernel)))⟩
theorem mv_X6_56 : hv_MV RX6 56 5 m_X5_lay 5 := ⟨mw_X5_lay, (hv_in 696 (by decide +kernel) (by decide +kernel)), (hv_in 23 (by decide +kernel) (by decide +kernel)), ⟨TX5, 11, rfl⟩, (Or.inr ⟨"HandedVoices", (hv_inN 643 (by decide +kernel) rfl)⟩)⟩
theorem mv_X6_61 : hv_MV RX6 61 6 m_X6_weigh 0 := ⟨mw_X6_weigh, (hv_in 772 (by decide +kernel) (by decide +kernel)), (hv_in 38 (by decide +kernel) (by decide +kernel)), ⟨TX6, 10, rfl⟩, (Or.inl (hv_in 770 (by decide +kernel) (by decide +kernel)))⟩
theorem ms_X6_64 : hv_MS RX6 64 m_J7_fill_d0a16 2 := ⟨mw_J7_fill_d0a16, (hv_in 775 (by decide +kernel) (by decide +kernel)), (Or.inl (hv_in 774 (by decide +kernel) (by decide +kernel)))⟩
theorem mv_X6_73 : hv_MV RX6 73 5 m_X5_reaching 0 := ⟨mw_X5_reaching, (hv_in 751 (by decide +kernel) (by decide +kernel)), (hv_in 35 (by decide +kernel) (by decide +kernel)), ⟨TX5, 11, rfl⟩, (Or.inr ⟨"HandedVoices", (hv_inN 651 (by decide +kernel) rfl)⟩)⟩
theorem mv_X6_77 : hv_MV RX6 77 6 m_X6_listHeard 1 := ⟨mw_X6_listHeard, (hv_in 780 (by decide +kernel) (by decide +kernel)), (hv_in 39 (by decide +kernel) (by decide +kernel)), ⟨TX6, 10, rfl⟩, (Or.inl (hv_in 778 (by decide +kernel) (by decide +kernel)))⟩
theorem mv_X6_81 : hv_MV RX6 81 6 m_X6_fillRows 1 := ⟨mw_X6_fillRows, (hv_in 784 (by decide +kernel) (by decide +kernel)), (hv_in 40 (by decide +kernel) (by decide +kernel)), ⟨TX6, 10, rfl⟩, (Or.inl (hv_in 782 (by decide +kernel) (by decide +kernel)))⟩
theorem mv_X6_85 : hv_MV RX6 85 6 m_X6_unroll 1 := ⟨mw_X6_unroll, (hv_in 789 (by decide +kernel) (by decide +kernel)), (hv_in 41 (by decide +kernel) (by decide +kernel)), ⟨TX6, 10, rfl⟩, (Or.inl (hv_in 787 (by decide +kernel) (by decide +kernel)))⟩
theorem ms_X6_114 : hv_MS RX6 114 m_X6_clear 5 := ⟨mw_X6_clear, (hv_in 792 (by decide +kernel) (by decide +kernel)), (Or.inl (hv_in 791 (by decide +kernel) (by decide +kernel)))⟩
theorem ms_X6_103 : hv_MS RX6 103 m_J9_min_f86c9 2 := ⟨mw_J9_min_f86c9, (hv_in 795 (by decide +kernel) (by decide +kernel)), (Or.inl (hv_in 794 (by decide +kernel) (by decide +kernel)))⟩
theorem ms_X9_173 : hv_MS RX9 173 m_X9_lowest 3 := ⟨mw_X9_lowest, (hv_in 798 (by decide +kernel) (by decide +kernel)), (Or.inl (hv_in 797 (by decide +kernel) (by decide +kernel)))⟩
theorem ms_X9_290 : hv_MS RX9 290 m_X9_commonDivisor 2 := ⟨mw_X9_commonDivisor, (hv_in 801 (by decide +kernel) (by decide +kernel)), (Or.inl (hv_in 800 (by decide +kernel) (by decide +kernel)))⟩
theorem mv_L_72 : hv_MV RL 72 9 m_X9_lost 1 := ⟨mw_X9_lost, (hv_in 804 (by decide +kernel) (by decide +kernel)), (hv_in 805 (by decide +kernel) (by decide +kernel)), ⟨TX9, 8, rfl⟩, (Or.inl (hv_in 803 (by decide +kernel) (by decide +kernel)))⟩
theorem mv_X9_180 : hv_MV RX9 180 5 m_X5_reaching 0 := ⟨mw_X5_reaching, (hv_in 751 (by decide +kernel) (by decide +kernel)), (hv_in 35 (by decide +kernel) (by decide +kernel)), ⟨TX5, 11, rfl⟩, (Or.inr ⟨"HandedVoices", (hv_inN 681 (by decide +kernel) rfl)⟩)⟩
theorem mv_L_76 : hv_MV RL 76 9 m_X9_decided 1 := ⟨mw_X9_decided, (hv_in 809 (by decide +kernel) (by decide +kernel)), (hv_in 810 (by decide +kernel) (by decide +kernel)), ⟨TX9, 8, rfl⟩, (Or.inl (hv_in 808 (by decide +kernel) (by decide +kernel)))⟩
theorem mv_X9_186 : hv_MV RX9 186 6 m_X6_sumOf 1 := ⟨mw_X6_sumOf, (hv_in 814 (by decide +kernel) (by decide +kernel)), (hv_in 42 (by decide +kernel) (by decide +kernel)), ⟨TX6, 10, rfl⟩, (Or.inr ⟨"HandedVoices", (hv_inN 686 (by decide +kernel) rfl)⟩)⟩
theorem mv_X9_190 : hv_MV RX9 190 6 m_X6_decides 1 := ⟨mw_X6_decides, (hv_in 818 (by decide +kernel) (by decide +kernel)), (hv_in 43 (by decide +kernel) (by decide +kernel)), ⟨TX6, 10, rfl⟩, (Or.inr ⟨"HandedVoices", (hv_inN 690 (by decide +kernel) rfl)⟩)⟩
theorem mv_L_80 : hv_MV RL 80 9 m_X9_turning 1 := ⟨mw_X9_turning, (hv_in 821 (by decide +kernel) (by decide +kernel)), (hv_in 822 (by decide +kernel) (by decide +kernel)), ⟨TX9, 8, rfl⟩, (Or.inl (hv_in 820 (by decide +kernel) (by decide +kernel)))⟩
theorem mv_L_84 : hv_MV RL 84 9 m_X9_power 2 := ⟨mw_X9_power, (hv_in 825 (by decide +kernel) (by decide +kernel)), (hv_in 826 (by decide +kernel) (by decide +kernel)), ⟨TX9, 8, rfl⟩, (Or.inl (hv_in 824 (by decide +kernel) (by decide +kernel)))⟩
theorem mv_X9_194 : hv_MV RX9 194 6 m_X6_withVoices 0 := ⟨mw_X6_withVoices, (hv_in 830 (by decide +kernel) (by decide +kernel)), (hv_in 44 (by decide +kernel) (by decide +kernel)), ⟨TX6, 10, rfl⟩, (Or.inr ⟨"HandedVoices", (hv_inN 702 (by decide +kernel) rfl)⟩)⟩
theorem mv_L_88 : hv_MV RL 88 9 m_X9_few 1 := ⟨mw_X9_few, (hv_in 833 (by decide +kernel) (by decide +kernel)), (hv_in 834 (by decide +kernel) (by decide +kernel)), ⟨TX9, 8, rfl⟩, (Or.inl (hv_in 832 (by decide +kernel) (by decide +kernel)))⟩
theorem ms_X9_197 : hv_MS RX9 197 m_J6_bitCount_0f7a4 1 := ⟨mw_J6_bitCount_0f7a4, (hv_in 736 (by decide +kernel) (by decide +kernel)), (Or.inl (hv_in 836 (by decide +kernel) (by decide +kernel)))⟩
theorem mv_L_92 : hv_MV RL 92 9 m_X9_best 2 := ⟨mw_X9_best, (hv_in 838 (by decide +kernel) (by decide +kernel)), (hv_in 839 (by decide +kernel) (by decide +kernel)), ⟨TX9, 8, rfl⟩, (Or.inl (hv_in 837 (by decide +kernel) (by decide +kernel)))⟩
theorem mv_X9_203 : hv_MV RX9 203 5 m_X5_layFirm 5 := ⟨mw_X5_layFirm, (hv_in 700 (by decide +kernel) (by decide +kernel)), (hv_in 24 (by decide +kernel) (by decide +kernel)), ⟨TX5, 11, rfl⟩, (Or.inr ⟨"HandedVoices", (hv_inN 715 (by decide +kernel) rfl)⟩)⟩
theorem mv_X9_209 : hv_MV RX9 209 5 m_X5_seekWays 1 := ⟨mw_X5_seekWays, (hv_in 729 (by decide +kernel) (by decide +kernel)), (hv_in 31 (by decide +kernel) (by decide +kernel)), ⟨TX5, 11, rfl⟩, (Or.inr ⟨"HandedVoices", (hv_inN 716 (by decide +kernel) rfl)⟩)⟩
theorem mv_L_96 : hv_MV RL 96 9 m_X9_right 3 := ⟨mw_X9_right, (hv_in 844 (by decide +kernel) (by decide +kernel)), (hv_in 845 (by decide +kernel) (by decide +kernel)), ⟨TX9, 8, rfl⟩, (Or.inl (hv_in 843 (by decide +kernel) (by decide +kernel)))⟩
theorem mv_X9_219 : hv_MV RX9 219 6 m_X6_chanceIf 4 := ⟨mw_X6_chanceIf, (hv_in 849 (by decide +kernel) (by decide +kernel)), (hv_in 45 (by decide +kernel) (by decide +kernel)), ⟨TX6, 10, rfl⟩, (Or.inr ⟨"HandedVoices", (hv_inN 721 (by decide +kernel) rfl)⟩)⟩
theorem mv_X6_127 : hv_MV RX6 127 6 m_X6_chance 1 := ⟨mw_X6_chance, (hv_in 853 (by decide +kernel) (by decide +kernel)), (hv_in 46 (by decide +kernel) (by decide +kernel)), ⟨TX6, 10, rfl⟩, (Or.inl (hv_in 851 (by decide +kernel) (by decide +kernel)))⟩
theorem mv_X6_130 : hv_MV RX6 130 6 m_X6_withVoices 0 := ⟨mw_X6_withVoices, (hv_in 830 (by decide +kernel) (by decide +kernel)), (hv_in 44 (by decide +kernel) (by decide +kernel)), ⟨TX6, 10, rfl⟩, (Or.inl (hv_in 855 (by decide +kernel) (by decide +kernel)))⟩
theorem ms_X6_133 : hv_MS RX6 133 m_J6_bitCount_0f7a4 1 := ⟨mw_J6_bitCount_0f7a4, (hv_in 736 (by decide +kernel) (by decide +kernel)), (Or.inl (hv_in 856 (by decide +kernel) (by decide +kernel)))⟩
theorem ms_X6_141 : hv_MS RX6 141 m_X9_cell 2 := ⟨mw_X9_cell, (hv_in 506 (by decide +kernel) (by decide +kernel)), (Or.inr ⟨"HandedVoices", (hv_inN 731 (by decide +kernel) rfl)⟩)⟩
theorem mv_X6_145 : hv_MV RX6 145 6 m_X6_fork 3 := ⟨mw_X6_fork, (hv_in 860 (by decide +kernel) (by decide +kernel)), (hv_in 47 (by decide +kernel) (by decide +kernel)), ⟨TX6, 10, rfl⟩, (Or.inl (hv_in 858 (by decide +kernel) (by decide +kernel)))⟩
theorem mv_X6_149 : hv_MV RX6 149 6 m_X6_decides 1 := ⟨mw_X6_decides, (hv_in 818 (by decide +kernel) (by decide +kernel)), (hv_in 43 (by decide +kernel) (by decide +kernel)), ⟨TX6, 10, rfl⟩, (Or.inl (hv_in 862 (by decide +kernel) (by decide +kernel)))⟩
theorem mv_L_100 : hv_MV RL 100 9 m_X9_surest 1 := ⟨mw_X9_surest, (hv_in 865 (by decide +kernel) (by decide +kernel)), (hv_in 866 (by decide +kernel) (by decide +kernel)), ⟨TX9, 8, rfl⟩, (Or.inl (hv_in 864 (by decide +kernel) (by decide +kernel)))⟩
theorem mv_X9_225 : hv_MV RX9 225 2 m_X2_surestOf 2 := ⟨mw_X2_surestOf, (hv_in 721 (by decide +kernel) (by decide +kernel)), (hv_in 29 (by decide +kernel) (by decide +kernel)), ⟨TX2, 9, rfl⟩, (Or.inr ⟨"HandedVoices", (hv_inN 742 (by decide +kernel) rfl)⟩)⟩
theorem mv_L_104 : hv_MV RL 104 9 m_X9_breach 1 := ⟨mw_X9_breach, (hv_in 870 (by decide +kernel) (by decide +kernel)), (hv_in 871 (by decide +kernel) (by decide +kernel)), ⟨TX9, 8, rfl⟩, (Or.inl (hv_in 869 (by decide +kernel) (by decide +kernel)))⟩
theorem mv_X9_228 : hv_MV RX9 228 8 m_X8_firstBreach 1 := ⟨mw_X8_firstBreach, (hv_in 875 (by decide +kernel) (by decide +kernel)), (hv_in 48 (by decide +kernel) (by decide +kernel)), ⟨TX8, 5, rfl⟩, (Or.inr ⟨"HandedVoices", (hv_inN 747 (by decide +kernel) rfl)⟩)⟩
theorem mv_X8_37 : hv_MV RX8 37 6 m_X6_reckon 5 := ⟨mw_X6_reckon, (hv_in 767 (by decide +kernel) (by decide +kernel)), (hv_in 37 (by decide +kernel) (by decide +kernel)), ⟨TX6, 10, rfl⟩, (Or.inr ⟨"HandedVoices", (hv_inN 751 (by decide +kernel) rfl)⟩)⟩
theorem mv_X8_59 : hv_MV RX8 59 3 m_X3_bars 3 := ⟨mw_X3_bars, (hv_in 688 (by decide +kernel) (by decide +kernel)), (hv_in 22 (by decide +kernel) (by decide +kernel)), ⟨TX3, 5, rfl⟩, (Or.inr ⟨"HandedVoices", (hv_inN 752 (by decide +kernel) rfl)⟩)⟩
theorem mv_L_108 : hv_MV RL 108 9 m_X9_rather 1 := ⟨mw_X9_rather, (hv_in 880 (by decide +kernel) (by decide +kernel)), (hv_in 881 (by decide +kernel) (by decide +kernel)), ⟨TX9, 8, rfl⟩, (Or.inl (hv_in 879 (by decide +kernel) (by decide +kernel)))⟩
theorem mv_X9_231 : hv_MV RX9 231 8 m_X8_firstWish 1 := ⟨mw_X8_firstWish, (hv_in 885 (by decide +kernel) (by decide +kernel)), (hv_in 49 (by decide +kernel) (by decide +kernel)), ⟨TX8, 5, rfl⟩, (Or.inr ⟨"HandedVoices", (hv_inN 757 (by decide +kernel) rfl)⟩)⟩
theorem mv_X8_65 : hv_MV RX8 65 6 m_X6_chanceIf 4 := ⟨mw_X6_chanceIf, (hv_in 849 (by decide +kernel) (by decide +kernel)), (hv_in 45 (by decide +kernel) (by decide +kernel)), ⟨TX6, 10, rfl⟩, (Or.inr ⟨"HandedVoices", (hv_inN 761 (by decide +kernel) rfl)⟩)⟩
theorem mv_L_112 : hv_MV RL 112 9 m_X9_settle 1 := ⟨mw_X9_settle, (hv_in 889 (by decide +kernel) (by decide +kernel)), (hv_in 890 (by decide +kernel) (by decide +kernel)), ⟨TX9, 8, rfl⟩, (Or.inl (hv_in 888 (by decide +kernel) (by decide +kernel)))⟩
theorem mv_L_116 : hv_MV RL 116 9 m_X9_heap 2 := ⟨mw_X9_heap, (hv_in 893 (by decide +kernel) (by decide +kernel)), (hv_in 894 (by decide +kernel) (by decide +kernel)), ⟨TX9, 8, rfl⟩, (Or.inl (hv_in 892 (by decide +kernel) (by decide +kernel)))⟩
theorem mv_X9_234 : hv_MV RX9 234 6 m_X6_highest 0 := ⟨mw_X6_highest, (hv_in 898 (by decide +kernel) (by decide +kernel)), (hv_in 50 (by decide +kernel) (by decide +kernel)), ⟨TX6, 10, rfl⟩, (Or.inr ⟨"HandedVoices", (hv_inN 770 (by decide +kernel) rfl)⟩)⟩
theorem ms_X6_124 : hv_MS RX6 124 m_J9_max_f86c9 2 := ⟨mw_J9_max_f86c9, (hv_in 901 (by decide +kernel) (by decide +kernel)), (Or.inl (hv_in 900 (by decide +kernel) (by decide +kernel)))⟩
theorem mv_L_121 : hv_MV RL 121 9 m_X9_mend 3 := ⟨mw_X9_mend, (hv_in 904 (by decide +kernel) (by decide +kernel)), (hv_in 905 (by decide +kernel) (by decide +kernel)), ⟨TX9, 8, rfl⟩, (Or.inl (hv_in 903 (by decide +kernel) (by decide +kernel)))⟩
theorem mv_X9_238 : hv_MV RX9 238 8 m_X8_bestMending 3 := ⟨mw_X8_bestMending, (hv_in 909 (by decide +kernel) (by decide +kernel)), (hv_in 51 (by decide +kernel) (by decide +kernel)), ⟨TX8, 5, rfl⟩, (Or.inr ⟨"HandedVoices", (hv_inN 781 (by decide +kernel) rfl)⟩)⟩
theorem mv_X8_71 : hv_MV RX8 71 8 m_X8_movers 1 := ⟨mw_X8_movers, (hv_in 914 (by decide +kernel) (by decide +kernel)), (hv_in 52 (by decide +kernel) (by decide +kernel)), ⟨TX8, 5, rfl⟩, (Or.inl (hv_in 912 (by decide +kernel) (by decide +kernel)))⟩
theorem ms_X8_88 : hv_MS RX8 88 m_X9_cell 2 := ⟨mw_X9_cell, (hv_in 506 (by decide +kernel) (by decide +kernel)), (Or.inr ⟨"HandedVoices", (hv_inN 790 (by decide +kernel) rfl)⟩)⟩
theorem mv_X8_92 : hv_MV RX8 92 2 m_X2_isSelf 2 := ⟨mw_X2_isSelf, (hv_in 713 (by decide +kernel) (by decide +kernel)), (hv_in 27 (by decide +kernel) (by decide +kernel)), ⟨TX2, 9, rfl⟩, (Or.inr ⟨"HandedVoices", (hv_inN 791 (by decide +kernel) rfl)⟩)⟩
theorem ms_X8_75 : hv_MS RX8 75 m_J6_bitCount_0f7a4 1 := ⟨mw_J6_bitCount_0f7a4, (hv_in 736 (by decide +kernel) (by decide +kernel)), (Or.inl (hv_in 918 (by decide +kernel) (by decide +kernel)))⟩
theorem mv_X8_80 : hv_MV RX8 80 6 m_X6_highest 0 := ⟨mw_X6_highest, (hv_in 898 (by decide +kernel) (by decide +kernel)), (hv_in 50 (by decide +kernel) (by decide +kernel)), ⟨TX6, 10, rfl⟩, (Or.inr ⟨"HandedVoices", (hv_inN 793 (by decide +kernel) rfl)⟩)⟩
theorem mv_X8_84 : hv_MV RX8 84 6 m_X6_chance 1 := ⟨mw_X6_chance, (hv_in 853 (by decide +kernel) (by decide +kernel)), (hv_in 46 (by decide +kernel) (by decide +kernel)), ⟨TX6, 10, rfl⟩, (Or.inr ⟨"HandedVoices", (hv_inN 794 (by decide +kernel) rfl)⟩)⟩
theorem mv_L_125 : hv_MV RL 125 9 m_X9_late 1 := ⟨mw_X9_late, (hv_in 922 (by decide +kernel) (by decide +kernel)), (hv_in 923 (by decide +kernel) (by decide +kernel)), ⟨TX9, 8, rfl⟩, (Or.inl (hv_in 921 (by decide +kernel) (by decide +kernel)))⟩
theorem mv_X9_242 : hv_MV RX9 242 8 m_X8_lastOtherwise 1 := ⟨mw_X8_lastOtherwise, (hv_in 927 (by decide +kernel) (by decide +kernel)), (hv_in 53 (by decide +kernel) (by decide +kernel)), ⟨TX8, 5, rfl⟩, (Or.inr ⟨"HandedVoices", (hv_inN 799 (by decide +kernel) rfl)⟩)⟩
theorem mv_X8_96 : hv_MV RX8 96 8 m_X8_decidedAt 2 := ⟨mw_X8_decidedAt, (hv_in 931 (by decide +kernel) (by decide +kernel)), (hv_in 54 (by decide +kernel) (by decide +kernel)), ⟨TX8, 5, rfl⟩, (Or.inl (hv_in 929 (by decide +kernel) (by decide +kernel)))⟩
theorem mv_X8_102 : hv_MV RX8 102 5 m_X5_lay 5 := ⟨mw_X5_lay, (hv_in 696 (by decide +kernel) (by decide +kernel)), (hv_in 23 (by decide +kernel) (by decide +kernel)), ⟨TX5, 11, rfl⟩, (Or.inr ⟨"HandedVoices", (hv_inN 807 (by decide +kernel) rfl)⟩)⟩
theorem mv_X8_105 : hv_MV RX8 105 6 m_X6_weigh 0 := ⟨mw_X6_weigh, (hv_in 772 (by decide +kernel) (by decide +kernel)), (hv_in 38 (by decide +kernel) (by decide +kernel)), ⟨TX6, 10, rfl⟩, (Or.inr ⟨"HandedVoices", (hv_inN 808 (by decide +kernel) rfl)⟩)⟩
theorem mv_X8_111 : hv_MV RX8 111 6 m_X6_sumOf 1 := ⟨mw_X6_sumOf, (hv_in 814 (by decide +kernel) (by decide +kernel)), (hv_in 42 (by decide +kernel) (by decide +kernel)), ⟨TX6, 10, rfl⟩, (Or.inr ⟨"HandedVoices", (hv_inN 809 (by decide +kernel) rfl)⟩)⟩
theorem mv_X8_114 : hv_MV RX8 114 6 m_X6_decides 1 := ⟨mw_X6_decides, (hv_in 818 (by decide +kernel) (by decide +kernel)), (hv_in 43 (by decide +kernel) (by decide +kernel)), ⟨TX6, 10, rfl⟩, (Or.inr ⟨"HandedVoices", (hv_inN 810 (by decide +kernel) rfl)⟩)⟩
theorem mv_X8_99 : hv_MV RX8 99 2 m_X2_takenBackAt 2 := ⟨mw_X2_takenBackAt, (hv_in 939 (by decide +kernel) (by decide +kernel)), (hv_in 55 (by decide +kernel) (by decide +kernel)), ⟨TX2, 9, rfl⟩, (Or.inr ⟨"HandedVoices", (hv_inN 811 (by decide +kernel) rfl)⟩)⟩
theorem mv_L_129 : hv_MV RL 129 9 m_X9_fewest 1 := ⟨mw_X9_fewest, (hv_in 942 (by decide +kernel) (by decide +kernel)), (hv_in 943 (by decide +kernel) (by decide +kernel)), ⟨TX9, 8, rfl⟩, (Or.inl (hv_in 941 (by decide +kernel) (by decide +kernel)))⟩
theorem mv_X9_245 : hv_MV RX9 245 8 m_X8_fewestToWin 1 := ⟨mw_X8_fewestToWin, (hv_in 947 (by decide +kernel) (by decide +kernel)), (hv_in 56 (by decide +kernel) (by decide +kernel)), ⟨TX8, 5, rfl⟩, (Or.inr ⟨"HandedVoices", (hv_inN 819 (by decide +kernel) rfl)⟩)⟩
theorem mv_L_133 : hv_MV RL 133 9 m_X9_table 3 := ⟨mw_X9_table, (hv_in 950 (by decide +kernel) (by decide +kernel)), (hv_in 951 (by decide +kernel) (by decide +kernel)), ⟨TX9, 8, rfl⟩, (Or.inl (hv_in 949 (by decide +kernel) (by decide +kernel)))⟩
theorem mv_X9_248 : hv_MV RX9 248 7 m_X7_exists 1 := ⟨mw_X7_exists, (hv_in 955 (by decide +kernel) (by decide +kernel)), (hv_in 57 (by decide +kernel) (by decide +kernel)), ⟨TX7, 3, rfl⟩, (Or.inr ⟨"HandedVoices", (hv_inN 827 (by decide +kernel) rfl)⟩)⟩
theorem mv_X9_257 : hv_MV RX9 257 7 m_X7_get 2 := ⟨mw_X7_get, (hv_in 959 (by decide +kernel) (by decide +kernel)), (hv_in 58 (by decide +kernel) (by decide +kernel)), ⟨TX7, 3, rfl⟩, (Or.inr ⟨"HandedVoices", (hv_inN 831 (by decide +kernel) rfl)⟩)⟩
theorem mv_L_137 : hv_MV RL 137 9 m_X9_act 4 := ⟨mw_X9_act, (hv_in 962 (by decide +kernel) (by decide +kernel)), (hv_in 963 (by decide +kernel) (by decide +kernel)), ⟨TX9, 8, rfl⟩, (Or.inl (hv_in 961 (by decide +kernel) (by decide +kernel)))⟩
theorem mv_X9_261 : hv_MV RX9 261 0 m_X0_clear 0 := ⟨mw_X0_clear, (hv_in 967 (by decide +kernel) (by decide +kernel)), (hv_in 59 (by decide +kernel) (by decide +kernel)), ⟨TX0, 5, rfl⟩, (Or.inr ⟨"HandedVoices", (hv_inN 839 (by decide +kernel) rfl)⟩)⟩
theorem mv_X9_264 : hv_MV RX9 264 0 m_X0_run 5 := ⟨mw_X0_run, (hv_in 971 (by decide +kernel) (by decide +kernel)), (hv_in 60 (by decide +kernel) (by decide +kernel)), ⟨TX0, 5, rfl⟩, (Or.inr ⟨"HandedVoices", (hv_inN 843 (by decide +kernel) rfl)⟩)⟩
theorem mv_X0_34 : hv_MV RX0 34 0 m_X0_gives 1 := ⟨mw_X0_gives, (hv_in 975 (by decide +kernel) (by decide +kernel)), (hv_in 61 (by decide +kernel) (by decide +kernel)), ⟨TX0, 5, rfl⟩, (Or.inl (hv_in 973 (by decide +kernel) (by decide +kernel)))⟩
theorem mv_X0_44 : hv_MV RX0 44 0 m_X0_begin 1 := ⟨mw_X0_begin, (hv_in 979 (by decide +kernel) (by decide +kernel)), (hv_in 62 (by decide +kernel) (by decide +kernel)), ⟨TX0, 5, rfl⟩, (Or.inl (hv_in 977 (by decide +kernel) (by decide +kernel)))⟩
theorem mv_X0_38 : hv_MV RX0 38 0 m_X0_holds 1 := ⟨mw_X0_holds, (hv_in 983 (by decide +kernel) (by decide +kernel)), (hv_in 63 (by decide +kernel) (by decide +kernel)), ⟨TX0, 5, rfl⟩, (Or.inl (hv_in 981 (by decide +kernel) (by decide +kernel)))⟩
theorem mv_X0_41 : hv_MV RX0 41 0 m_X0_tells 1 := ⟨mw_X0_tells, (hv_in 987 (by decide +kernel) (by decide +kernel)), (hv_in 64 (by decide +kernel) (by decide +kernel)), ⟨TX0, 5, rfl⟩, (Or.inl (hv_in 985 (by decide +kernel) (by decide +kernel)))⟩
theorem mv_X0_48 : hv_MV RX0 48 0 m_X0_tellsAsHand 1 := ⟨mw_X0_tellsAsHand, (hv_in 991 (by decide +kernel) (by decide +kernel)), (hv_in 65 (by decide +kernel) (by decide +kernel)), ⟨TX0, 5, rfl⟩, (Or.inl (hv_in 989 (by decide +kernel) (by decide +kernel)))⟩
theorem mv_L_142 : hv_MV RL 142 9 m_X9_trace 1 := ⟨mw_X9_trace, (hv_in 994 (by decide +kernel) (by decide +kernel)), (hv_in 995 (by decide +kernel) (by decide +kernel)), ⟨TX9, 8, rfl⟩, (Or.inl (hv_in 993 (by decide +kernel) (by decide +kernel)))⟩
theorem mv_X9_267 : hv_MV RX9 267 0 m_X0_kept 0 := ⟨mw_X0_kept, (hv_in 999 (by decide +kernel) (by decide +kernel)), (hv_in 66 (by decide +kernel) (by decide +kernel)), ⟨TX0, 5, rfl⟩, (Or.inr ⟨"HandedVoices", (hv_inN 871 (by decide +kernel) rfl)⟩)⟩
theorem ms_X0_19 : hv_MS RX0 19 m_J9_min_7cf53 2 := ⟨mw_J9_min_7cf53, (hv_in 1002 (by decide +kernel) (by decide +kernel)), (Or.inl (hv_in 1001 (by decide +kernel) (by decide +kernel)))⟩
theorem mv_L_146 : hv_MV RL 146 9 m_X9_taken 3 := ⟨mw_X9_taken, (hv_in 1005 (by decide +kernel) (by decide +kernel)), (hv_in 1006 (by decide +kernel) (by decide +kernel)), ⟨TX9, 8, rfl⟩, (Or.inl (hv_in 1004 (by decide +kernel) (by decide +kernel)))⟩
theorem mv_L_150 : hv_MV RL 150 9 m_X9_count 1 := ⟨mw_X9_count, (hv_in 1009 (by decide +kernel) (by decide +kernel)), (hv_in 1010 (by decide +kernel) (by decide +kernel)), ⟨TX9, 8, rfl⟩, (Or.inl (hv_in 1008 (by decide +kernel) (by decide +kernel)))⟩
theorem mv_L_154 : hv_MV RL 154 9 m_X9_tape 3 := ⟨mw_X9_tape, (hv_in 1013 (by decide +kernel) (by decide +kernel)), (hv_in 1014 (by decide +kernel) (by decide +kernel)), ⟨TX9, 8, rfl⟩, (Or.inl (hv_in 1012 (by decide +kernel) (by decide +kernel)))⟩
theorem mv_X9_276 : hv_MV RX9 276 7 m_X7_reset 3 := ⟨mw_X7_reset, (hv_in 1018 (by decide +kernel) (by decide +kernel)), (hv_in 67 (by decide +kernel) (by decide +kernel)), ⟨TX7, 3, rfl⟩, (Or.inr ⟨"HandedVoices", (hv_inN 890 (by decide +kernel) rfl)⟩)⟩
theorem mv_L_160 : hv_MV RL 160 9 m_X9_item 3 := ⟨mw_X9_item, (hv_in 1021 (by decide +kernel) (by decide +kernel)), (hv_in 1022 (by decide +kernel) (by decide +kernel)), ⟨TX9, 8, rfl⟩, (Or.inl (hv_in 1020 (by decide +kernel) (by decide +kernel)))⟩
theorem mv_X9_280 : hv_MV RX9 280 7 m_X7_put 3 := ⟨mw_X7_put, (hv_in 1026 (by decide +kernel) (by decide +kernel)), (hv_in 68 (by decide +kernel) (by decide +kernel)), ⟨TX7, 3, rfl⟩, (Or.inr ⟨"HandedVoices", (hv_inN 898 (by decide +kernel) rfl)⟩)⟩
theorem ms_X7_26 : hv_MS RX7 26 m_X7_narrow 2 := ⟨mw_X7_narrow, (hv_in 1029 (by decide +kernel) (by decide +kernel)), (Or.inl (hv_in 1028 (by decide +kernel) (by decide +kernel)))⟩
theorem mv_L_165 : hv_MV RL 165 9 m_X9_read 2 := ⟨mw_X9_read, (hv_in 1032 (by decide +kernel) (by decide +kernel)), (hv_in 1033 (by decide +kernel) (by decide +kernel)), ⟨TX9, 8, rfl⟩, (Or.inl (hv_in 1031 (by decide +kernel) (by decide +kernel)))⟩
theorem mv_L_169 : hv_MV RL 169 9 m_X9_shift 5 := ⟨mw_X9_shift, (hv_in 1036 (by decide +kernel) (by decide +kernel)), (hv_in 1037 (by decide +kernel) (by decide +kernel)), ⟨TX9, 8, rfl⟩, (Or.inl (hv_in 1035 (by decide +kernel) (by decide +kernel)))⟩
theorem mv_X9_284 : hv_MV RX9 284 7 m_X7_holds 3 := ⟨mw_X7_holds, (hv_in 1041 (by decide +kernel) (by decide +kernel)), (hv_in 69 (by decide +kernel) (by decide +kernel)), ⟨TX7, 3, rfl⟩, (Or.inr ⟨"HandedVoices", (hv_inN 913 (by decide +kernel) rfl)⟩)⟩
theorem mv_X9_287 : hv_MV RX9 287 7 m_X7_copy 5 := ⟨mw_X7_copy, (hv_in 1045 (by decide +kernel) (by decide +kernel)), (hv_in 70 (by decide +kernel) (by decide +kernel)), ⟨TX7, 3, rfl⟩, (Or.inr ⟨"HandedVoices", (hv_inN 917 (by decide +kernel) rfl)⟩)⟩
theorem mv_L_17 : hv_MV RL 17 10 m_X10_member 0 := ⟨mw_X10_member, (hv_in 1215 (by decide +kernel) (by decide +kernel)), (hv_in 1216 (by decide +kernel) (by decide +kernel)), ⟨TX10, 52, rfl⟩, (Or.inl (hv_in 1214 (by decide +kernel) (by decide +kernel)))⟩
theorem mv_X10_175 : hv_MV RX10 175 10 m_X10_put 5 := ⟨mw_X10_put, (hv_in 1220 (by decide +kernel) (by decide +kernel)), (hv_in 71 (by decide +kernel) (by decide +kernel)), ⟨TX10, 52, rfl⟩, (Or.inl (hv_in 1218 (by decide +kernel) (by decide +kernel)))⟩
theorem mv_L_22 : hv_MV RL 22 10 m_X10_think 4 := ⟨mw_X10_think, (hv_in 1223 (by decide +kernel) (by decide +kernel)), (hv_in 1224 (by decide +kernel) (by decide +kernel)), ⟨TX10, 52, rfl⟩, (Or.inl (hv_in 1222 (by decide +kernel) (by decide +kernel)))⟩
theorem mv_X10_179 : hv_MV RX10 179 10 m_X10_isMember 1 := ⟨mw_X10_isMember, (hv_in 1228 (by decide +kernel) (by decide +kernel)), (hv_in 72 (by decide +kernel) (by decide +kernel)), ⟨TX10, 52, rfl⟩, (Or.inl (hv_in 1226 (by decide +kernel) (by decide +kernel)))⟩
theorem mv_X10_171 : hv_MV RX10 171 10 m_X10_in 3 := ⟨mw_X10_in, (hv_in 1232 (by decide +kernel) (by decide +kernel)), (hv_in 73 (by decide +kernel) (by decide +kernel)), ⟨TX10, 52, rfl⟩, (Or.inl (hv_in 1230 (by decide +kernel) (by decide +kernel)))⟩
theorem mv_X10_183 : hv_MV RX10 183 10 m_X10_isMatter 1 := ⟨mw_X10_isMatter, (hv_in 1236 (by decide +kernel) (by decide +kernel)), (hv_in 74 (by decide +kernel) (by decide +kernel)), ⟨TX10, 52, rfl⟩, (Or.inl (hv_in 1234 (by decide +kernel) (by decide +kernel)))⟩
theorem mv_L_27 : hv_MV RL 27 10 m_X10_hand 3 := ⟨mw_X10_hand, (hv_in 1239 (by decide +kernel) (by decide +kernel)), (hv_in 1240 (by decide +kernel) (by decide +kernel)), ⟨TX10, 52, rfl⟩, (Or.inl (hv_in 1238 (by decide +kernel) (by decide +kernel)))⟩
theorem mv_L_31 : hv_MV RL 31 10 m_X10_give 3 := ⟨mw_X10_give, (hv_in 1243 (by decide +kernel) (by decide +kernel)), (hv_in 1244 (by decide +kernel) (by decide +kernel)), ⟨TX10, 52, rfl⟩, (Or.inl (hv_in 1242 (by decide +kernel) (by decide +kernel)))⟩
theorem mv_L_36 : hv_MV RL 36 10 m_X10_names 5 := ⟨mw_X10_names, (hv_in 1247 (by decide +kernel) (by decide +kernel)), (hv_in 1248 (by decide +kernel) (by decide +kernel)), ⟨TX10, 52, rfl⟩, (Or.inl (hv_in 1246 (by decide +kernel) (by decide +kernel)))⟩
theorem mv_L_40 : hv_MV RL 40 10 m_X10_back 3 := ⟨mw_X10_back, (hv_in 1251 (by decide +kernel) (by decide +kernel)), (hv_in 1252 (by decide +kernel) (by decide +kernel)), ⟨TX10, 52, rfl⟩, (Or.inl (hv_in 1250 (by decide +kernel) (by decide +kernel)))⟩
theorem mv_L_45 : hv_MV RL 45 10 m_X10_pass 1 := ⟨mw_X10_pass, (hv_in 1255 (by decide +kernel) (by decide +kernel)), (hv_in 1256 (by decide +kernel) (by decide +kernel)), ⟨TX10, 52, rfl⟩, (Or.inl (hv_in 1254 (by decide +kernel) (by decide +kernel)))⟩
theorem mv_L_49 : hv_MV RL 49 10 m_X10_of 3 := ⟨mw_X10_of, (hv_in 1259 (by decide +kernel) (by decide +kernel)), (hv_in 1260 (by decide +kernel) (by decide +kernel)), ⟨TX10, 52, rfl⟩, (Or.inl (hv_in 1258 (by decide +kernel) (by decide +kernel)))⟩
theorem mv_L_54 : hv_MV RL 54 10 m_X10_feed 2 := ⟨mw_X10_feed, (hv_in 1263 (by decide +kernel) (by decide +kernel)), (hv_in 1264 (by decide +kernel) (by decide +kernel)), ⟨TX10, 52, rfl⟩, (Or.inl (hv_in 1262 (by decide +kernel) (by decide +kernel)))⟩
theorem mv_L_58 : hv_MV RL 58 10 m_X10_hall 0 := ⟨mw_X10_hall, (hv_in 1267 (by decide +kernel) (by decide +kernel)), (hv_in 1268 (by decide +kernel) (by decide +kernel)), ⟨TX10, 52, rfl⟩, (Or.inl (hv_in 1266 (by decide +kernel) (by decide +kernel)))⟩
theorem mv_X10_227 : hv_MV RX10 227 10 m_X10_goes 1 := ⟨mw_X10_goes, (hv_in 1272 (by decide +kernel) (by decide +kernel)), (hv_in 75 (by decide +kernel) (by decide +kernel)), ⟨TX10, 52, rfl⟩, (Or.inl (hv_in 1270 (by decide +kernel) (by decide +kernel)))⟩
theorem mv_X10_224 : hv_MV RX10 224 10 m_X10_takesClause 0 := ⟨mw_X10_takesClause, (hv_in 1276 (by decide +kernel) (by decide +kernel)), (hv_in 76 (by decide +kernel) (by decide +kernel)), ⟨TX10, 52, rfl⟩, (Or.inl (hv_in 1274 (by decide +kernel) (by decide +kernel)))⟩
theorem mv_X10_186 : hv_MV RX10 186 10 m_X10_next 0 := ⟨mw_X10_next, (hv_in 1280 (by decide +kernel) (by decide +kernel)), (hv_in 77 (by decide +kernel) (by decide +kernel)), ⟨TX10, 52, rfl⟩, (Or.inl (hv_in 1278 (by decide +kernel) (by decide +kernel)))⟩
theorem mv_X10_213 : hv_MV RX10 213 10 m_X10_takesWord 2 := ⟨mw_X10_takesWord, (hv_in 1284 (by decide +kernel) (by decide +kernel)), (hv_in 78 (by decide +kernel) (by decide +kernel)), ⟨TX10, 52, rfl⟩, (Or.inl (hv_in 1282 (by decide +kernel) (by decide +kernel)))⟩
theorem mv_X10_190 : hv_MV RX10 190 10 m_X10_takes 1 := ⟨mw_X10_takes, (hv_in 1288 (by decide +kernel) (by decide +kernel)), (hv_in 79 (by decide +kernel) (by decide +kernel)), ⟨TX10, 52, rfl⟩, (Or.inl (hv_in 1286 (by decide +kernel) (by decide +kernel)))⟩
theorem mv_X10_217 : hv_MV RX10 217 10 m_X10_takesE 0 := ⟨mw_X10_takesE, (hv_in 1292 (by decide +kernel) (by decide +kernel)), (hv_in 80 (by decide +kernel) (by decide +kernel)), ⟨TX10, 52, rfl⟩, (Or.inl (hv_in 1290 (by decide +kernel) (by decide +kernel)))⟩
theorem mv_X10_205 : hv_MV RX10 205 10 m_X10_takesTest 0 := ⟨mw_X10_takesTest, (hv_in 1296 (by decide +kernel) (by decide +kernel)), (hv_in 81 (by decide +kernel) (by decide +kernel)), ⟨TX10, 52, rfl⟩, (Or.inl (hv_in 1294 (by decide +kernel) (by decide +kernel)))⟩
theorem mv_X10_197 : hv_MV RX10 197 10 m_X10_takesNumber 1 := ⟨mw_X10_takesNumber, (hv_in 1300 (by decide +kernel) (by decide +kernel)), (hv_in 82 (by decide +kernel) (by decide +kernel)), ⟨TX10, 52, rfl⟩, (Or.inl (hv_in 1298 (by decide +kernel) (by decide +kernel)))⟩
theorem mv_X10_193 : hv_MV RX10 193 10 m_X10_isDigit 0 := ⟨mw_X10_isDigit, (hv_in 1304 (by decide +kernel) (by decide +kernel)), (hv_in 83 (by decide +kernel) (by decide +kernel)), ⟨TX10, 52, rfl⟩, (Or.inl (hv_in 1302 (by decide +kernel) (by decide +kernel)))⟩
theorem mv_X10_201 : hv_MV RX10 201 10 m_X10_push 1 := ⟨mw_X10_push, (hv_in 1308 (by decide +kernel) (by decide +kernel)), (hv_in 84 (by decide +kernel) (by decide +kernel)), ⟨TX10, 52, rfl⟩, (Or.inl (hv_in 1306 (by decide +kernel) (by decide +kernel)))⟩
theorem mv_X10_208 : hv_MV RX10 208 10 m_X10_settleSigns 1 := ⟨mw_X10_settleSigns, (hv_in 1312 (by decide +kernel) (by decide +kernel)), (hv_in 85 (by decide +kernel) (by decide +kernel)), ⟨TX10, 52, rfl⟩, (Or.inl (hv_in 1310 (by decide +kernel) (by decide +kernel)))⟩
theorem mv_X10_220 : hv_MV RX10 220 10 m_X10_takesNeed 0 := ⟨mw_X10_takesNeed, (hv_in 1316 (by decide +kernel) (by decide +kernel)), (hv_in 86 (by decide +kernel) (by decide +kernel)), ⟨TX10, 52, rfl⟩, (Or.inl (hv_in 1314 (by decide +kernel) (by decide +kernel)))⟩
theorem mv_L_62 : hv_MV RL 62 10 m_X10_barred 3 := ⟨mw_X10_barred, (hv_in 1321 (by decide +kernel) (by decide +kernel)), (hv_in 1322 (by decide +kernel) (by decide +kernel)), ⟨TX10, 52, rfl⟩, (Or.inl (hv_in 1320 (by decide +kernel) (by decide +kernel)))⟩
theorem mv_X10_230 : hv_MV RX10 230 10 m_X10_isBar 3 := ⟨mw_X10_isBar, (hv_in 1326 (by decide +kernel) (by decide +kernel)), (hv_in 87 (by decide +kernel) (by decide +kernel)), ⟨TX10, 52, rfl⟩, (Or.inl (hv_in 1324 (by decide +kernel) (by decide +kernel)))⟩
theorem mv_L_66 : hv_MV RL 66 10 m_X10_share 3 := ⟨mw_X10_share, (hv_in 1329 (by decide +kernel) (by decide +kernel)), (hv_in 1330 (by decide +kernel) (by decide +kernel)), ⟨TX10, 52, rfl⟩, (Or.inl (hv_in 1328 (by decide +kernel) (by decide +kernel)))⟩
theorem mv_X10_267 : hv_MV RX10 267 10 m_X10_findAll 2 := ⟨mw_X10_findAll, (hv_in 1334 (by decide +kernel) (by decide +kernel)), (hv_in 88 (by decide +kernel) (by decide +kernel)), ⟨TX10, 52, rfl⟩, (Or.inl (hv_in 1332 (by decide +kernel) (by decide +kernel)))⟩
theorem mv_X10_261 : hv_MV RX10 261 10 m_X10_findHands 2 := ⟨mw_X10_findHands, (hv_in 1338 (by decide +kernel) (by decide +kernel)), (hv_in 89 (by decide +kernel) (by decide +kernel)), ⟨TX10, 52, rfl⟩, (Or.inl (hv_in 1336 (by decide +kernel) (by decide +kernel)))⟩
theorem mv_X10_257 : hv_MV RX10 257 10 m_X10_findHand 2 := ⟨mw_X10_findHand, (hv_in 1342 (by decide +kernel) (by decide +kernel)), (hv_in 90 (by decide +kernel) (by decide +kernel)), ⟨TX10, 52, rfl⟩, (Or.inl (hv_in 1340 (by decide +kernel) (by decide +kernel)))⟩
theorem mv_X10_233 : hv_MV RX10 233 10 m_X10_hands 4 := ⟨mw_X10_hands, (hv_in 1346 (by decide +kernel) (by decide +kernel)), (hv_in 91 (by decide +kernel) (by decide +kernel)), ⟨TX10, 52, rfl⟩, (Or.inl (hv_in 1344 (by decide +kernel) (by decide +kernel)))⟩
theorem mv_X10_237 : hv_MV RX10 237 10 m_X10_surestOf 2 := ⟨mw_X10_surestOf, (hv_in 1350 (by decide +kernel) (by decide +kernel)), (hv_in 92 (by decide +kernel) (by decide +kernel)), ⟨TX10, 52, rfl⟩, (Or.inl (hv_in 1348 (by decide +kernel) (by decide +kernel)))⟩
theorem mv_X10_264 : hv_MV RX10 264 10 m_X10_findBest 1 := ⟨mw_X10_findBest, (hv_in 1354 (by decide +kernel) (by decide +kernel)), (hv_in 93 (by decide +kernel) (by decide +kernel)), ⟨TX10, 52, rfl⟩, (Or.inl (hv_in 1352 (by decide +kernel) (by decide +kernel)))⟩
theorem mv_X10_244 : hv_MV RX10 244 10 m_X10_isOrder 2 := ⟨mw_X10_isOrder, (hv_in 1358 (by decide +kernel) (by decide +kernel)), (hv_in 94 (by decide +kernel) (by decide +kernel)), ⟨TX10, 52, rfl⟩, (Or.inl (hv_in 1356 (by decide +kernel) (by decide +kernel)))⟩
theorem mv_X10_247 : hv_MV RX10 247 10 m_X10_putOrders 2 := ⟨mw_X10_putOrders, (hv_in 1362 (by decide +kernel) (by decide +kernel)), (hv_in 95 (by decide +kernel) (by decide +kernel)), ⟨TX10, 52, rfl⟩, (Or.inl (hv_in 1360 (by decide +kernel) (by decide +kernel)))⟩
theorem mv_X10_241 : hv_MV RX10 241 10 m_X10_has 2 := ⟨mw_X10_has, (hv_in 1366 (by decide +kernel) (by decide +kernel)), (hv_in 96 (by decide +kernel) (by decide +kernel)), ⟨TX10, 52, rfl⟩, (Or.inl (hv_in 1364 (by decide +kernel) (by decide +kernel)))⟩
theorem mv_X10_250 : hv_MV RX10 250 10 m_X10_lostNow 0 := ⟨mw_X10_lostNow, (hv_in 1370 (by decide +kernel) (by decide +kernel)), (hv_in 97 (by decide +kernel) (by decide +kernel)), ⟨TX10, 52, rfl⟩, (Or.inl (hv_in 1368 (by decide +kernel) (by decide +kernel)))⟩
theorem mv_X10_253 : hv_MV RX10 253 10 m_X10_ones 1 := ⟨mw_X10_ones, (hv_in 1374 (by decide +kernel) (by decide +kernel)), (hv_in 98 (by decide +kernel) (by decide +kernel)), ⟨TX10, 52, rfl⟩, (Or.inl (hv_in 1372 (by decide +kernel) (by decide +kernel)))⟩
theorem mv_L_71 : hv_MV RL 71 10 m_X10_voices 3 := ⟨mw_X10_voices, (hv_in 1377 (by decide +kernel) (by decide +kernel)), (hv_in 1378 (by decide +kernel) (by decide +kernel)), ⟨TX10, 52, rfl⟩, (Or.inl (hv_in 1376 (by decide +kernel) (by decide +kernel)))⟩
theorem mv_X10_281 : hv_MV RX10 281 10 m_X10_findVoices 2 := ⟨mw_X10_findVoices, (hv_in 1383 (by decide +kernel) (by decide +kernel)), (hv_in 99 (by decide +kernel) (by decide +kernel)), ⟨TX10, 52, rfl⟩, (Or.inl (hv_in 1381 (by decide +kernel) (by decide +kernel)))⟩
theorem mv_X10_272 : hv_MV RX10 272 10 m_X10_unroll 0 := ⟨mw_X10_unroll, (hv_in 1387 (by decide +kernel) (by decide +kernel)), (hv_in 100 (by decide +kernel) (by decide +kernel)), ⟨TX10, 52, rfl⟩, (Or.inl (hv_in 1385 (by decide +kernel) (by decide +kernel)))⟩
theorem mv_X10_284 : hv_MV RX10 284 10 m_X10_part 3 := ⟨mw_X10_part, (hv_in 1392 (by decide +kernel) (by decide +kernel)), (hv_in 101 (by decide +kernel) (by decide +kernel)), ⟨TX10, 52, rfl⟩, (Or.inl (hv_in 1390 (by decide +kernel) (by decide +kernel)))⟩
theorem mv_X10_275 : hv_MV RX10 275 10 m_X10_divisor 2 := ⟨mw_X10_divisor, (hv_in 1396 (by decide +kernel) (by decide +kernel)), (hv_in 102 (by decide +kernel) (by decide +kernel)), ⟨TX10, 52, rfl⟩, (Or.inl (hv_in 1394 (by decide +kernel) (by decide +kernel)))⟩
theorem mv_L_75 : hv_MV RL 75 10 m_X10_lost 1 := ⟨mw_X10_lost, (hv_in 1399 (by decide +kernel) (by decide +kernel)), (hv_in 1400 (by decide +kernel) (by decide +kernel)), ⟨TX10, 52, rfl⟩, (Or.inl (hv_in 1398 (by decide +kernel) (by decide +kernel)))⟩
theorem mv_L_79 : hv_MV RL 79 10 m_X10_decided 1 := ⟨mw_X10_decided, (hv_in 1403 (by decide +kernel) (by decide +kernel)), (hv_in 1404 (by decide +kernel) (by decide +kernel)), ⟨TX10, 52, rfl⟩, (Or.inl (hv_in 1402 (by decide +kernel) (by decide +kernel)))⟩
theorem mv_X10_288 : hv_MV RX10 288 10 m_X10_thinks 1 := ⟨mw_X10_thinks, (hv_in 1408 (by decide +kernel) (by decide +kernel)), (hv_in 103 (by decide +kernel) (by decide +kernel)), ⟨TX10, 52, rfl⟩, (Or.inl (hv_in 1406 (by decide +kernel) (by decide +kernel)))⟩
theorem mv_X10_291 : hv_MV RX10 291 10 m_X10_decides 1 := ⟨mw_X10_decides, (hv_in 1412 (by decide +kernel) (by decide +kernel)), (hv_in 104 (by decide +kernel) (by decide +kernel)), ⟨TX10, 52, rfl⟩, (Or.inl (hv_in 1410 (by decide +kernel) (by decide +kernel)))⟩
theorem mv_L_83 : hv_MV RL 83 10 m_X10_turning 1 := ⟨mw_X10_turning, (hv_in 1415 (by decide +kernel) (by decide +kernel)), (hv_in 1416 (by decide +kernel) (by decide +kernel)), ⟨TX10, 52, rfl⟩, (Or.inl (hv_in 1414 (by decide +kernel) (by decide +kernel)))⟩
theorem mv_L_87 : hv_MV RL 87 10 m_X10_power 2 := ⟨mw_X10_power, (hv_in 1419 (by decide +kernel) (by decide +kernel)), (hv_in 1420 (by decide +kernel) (by decide +kernel)), ⟨TX10, 52, rfl⟩, (Or.inl (hv_in 1418 (by decide +kernel) (by decide +kernel)))⟩
theorem mv_X10_294 : hv_MV RX10 294 10 m_X10_speaking 0 := ⟨mw_X10_speaking, (hv_in 1424 (by decide +kernel) (by decide +kernel)), (hv_in 105 (by decide +kernel) (by decide +kernel)), ⟨TX10, 52, rfl⟩, (Or.inl (hv_in 1422 (by decide +kernel) (by decide +kernel)))⟩
theorem mv_L_91 : hv_MV RL 91 10 m_X10_few 1 := ⟨mw_X10_few, (hv_in 1427 (by decide +kernel) (by decide +kernel)), (hv_in 1428 (by decide +kernel) (by decide +kernel)), ⟨TX10, 52, rfl⟩, (Or.inl (hv_in 1426 (by decide +kernel) (by decide +kernel)))⟩
theorem mv_L_95 : hv_MV RL 95 10 m_X10_best 2 := ⟨mw_X10_best, (hv_in 1431 (by decide +kernel) (by decide +kernel)), (hv_in 1432 (by decide +kernel) (by decide +kernel)), ⟨TX10, 52, rfl⟩, (Or.inl (hv_in 1430 (by decide +kernel) (by decide +kernel)))⟩
theorem mv_L_99 : hv_MV RL 99 10 m_X10_right 3 := ⟨mw_X10_right, (hv_in 1435 (by decide +kernel) (by decide +kernel)), (hv_in 1436 (by decide +kernel) (by decide +kernel)), ⟨TX10, 52, rfl⟩, (Or.inl (hv_in 1434 (by decide +kernel) (by decide +kernel)))⟩
theorem mv_X10_297 : hv_MV RX10 297 10 m_X10_findAlone 0 := ⟨mw_X10_findAlone, (hv_in 1440 (by decide +kernel) (by decide +kernel)), (hv_in 106 (by decide +kernel) (by decide +kernel)), ⟨TX10, 52, rfl⟩, (Or.inl (hv_in 1438 (by decide +kernel) (by decide +kernel)))⟩
theorem mv_X10_300 : hv_MV RX10 300 10 m_X10_findRight 1 := ⟨mw_X10_findRight, (hv_in 1444 (by decide +kernel) (by decide +kernel)), (hv_in 107 (by decide +kernel) (by decide +kernel)), ⟨TX10, 52, rfl⟩, (Or.inl (hv_in 1442 (by decide +kernel) (by decide +kernel)))⟩
theorem mv_L_103 : hv_MV RL 103 10 m_X10_surest 1 := ⟨mw_X10_surest, (hv_in 1447 (by decide +kernel) (by decide +kernel)), (hv_in 1448 (by decide +kernel) (by decide +kernel)), ⟨TX10, 52, rfl⟩, (Or.inl (hv_in 1446 (by decide +kernel) (by decide +kernel)))⟩
theorem mv_L_107 : hv_MV RL 107 10 m_X10_breach 1 := ⟨mw_X10_breach, (hv_in 1451 (by decide +kernel) (by decide +kernel)), (hv_in 1452 (by decide +kernel) (by decide +kernel)), ⟨TX10, 52, rfl⟩, (Or.inl (hv_in 1450 (by decide +kernel) (by decide +kernel)))⟩
theorem mv_X10_303 : hv_MV RX10 303 10 m_X10_keep 2 := ⟨mw_X10_keep, (hv_in 1456 (by decide +kernel) (by decide +kernel)), (hv_in 108 (by decide +kernel) (by decide +kernel)), ⟨TX10, 52, rfl⟩, (Or.inl (hv_in 1454 (by decide +kernel) (by decide +kernel)))⟩
theorem mv_X10_306 : hv_MV RX10 306 10 m_X10_putBack 2 := ⟨mw_X10_putBack, (hv_in 1460 (by decide +kernel) (by decide +kernel)), (hv_in 109 (by decide +kernel) (by decide +kernel)), ⟨TX10, 52, rfl⟩, (Or.inl (hv_in 1458 (by decide +kernel) (by decide +kernel)))⟩
theorem mv_X10_309 : hv_MV RX10 309 10 m_X10_isLess 4 := ⟨mw_X10_isLess, (hv_in 1464 (by decide +kernel) (by decide +kernel)), (hv_in 110 (by decide +kernel) (by decide +kernel)), ⟨TX10, 52, rfl⟩, (Or.inl (hv_in 1462 (by decide +kernel) (by decide +kernel)))⟩
theorem mv_L_111 : hv_MV RL 111 10 m_X10_rather 1 := ⟨mw_X10_rather, (hv_in 1467 (by decide +kernel) (by decide +kernel)), (hv_in 1468 (by decide +kernel) (by decide +kernel)), ⟨TX10, 52, rfl⟩, (Or.inl (hv_in 1466 (by decide +kernel) (by decide +kernel)))⟩
theorem mv_X10_313 : hv_MV RX10 313 10 m_X10_ratherOf 1 := ⟨mw_X10_ratherOf, (hv_in 1472 (by decide +kernel) (by decide +kernel)), (hv_in 111 (by decide +kernel) (by decide +kernel)), ⟨TX10, 52, rfl⟩, (Or.inl (hv_in 1470 (by decide +kernel) (by decide +kernel)))⟩
theorem mv_L_115 : hv_MV RL 115 10 m_X10_settle 1 := ⟨mw_X10_settle, (hv_in 1475 (by decide +kernel) (by decide +kernel)), (hv_in 1476 (by decide +kernel) (by decide +kernel)), ⟨TX10, 52, rfl⟩, (Or.inl (hv_in 1474 (by decide +kernel) (by decide +kernel)))⟩
theorem mv_L_120 : hv_MV RL 120 10 m_X10_heap 2 := ⟨mw_X10_heap, (hv_in 1479 (by decide +kernel) (by decide +kernel)), (hv_in 1480 (by decide +kernel) (by decide +kernel)), ⟨TX10, 52, rfl⟩, (Or.inl (hv_in 1478 (by decide +kernel) (by decide +kernel)))⟩
theorem mv_X10_316 : hv_MV RX10 316 10 m_X10_heapOf 0 := ⟨mw_X10_heapOf, (hv_in 1484 (by decide +kernel) (by decide +kernel)), (hv_in 112 (by decide +kernel) (by decide +kernel)), ⟨TX10, 52, rfl⟩, (Or.inl (hv_in 1482 (by decide +kernel) (by decide +kernel)))⟩
theorem mv_L_124 : hv_MV RL 124 10 m_X10_mend 3 := ⟨mw_X10_mend, (hv_in 1487 (by decide +kernel) (by decide +kernel)), (hv_in 1488 (by decide +kernel) (by decide +kernel)), ⟨TX10, 52, rfl⟩, (Or.inl (hv_in 1486 (by decide +kernel) (by decide +kernel)))⟩
theorem mv_X10_320 : hv_MV RX10 320 10 m_X10_asSelf 2 := ⟨mw_X10_asSelf, (hv_in 1492 (by decide +kernel) (by decide +kernel)), (hv_in 113 (by decide +kernel) (by decide +kernel)), ⟨TX10, 52, rfl⟩, (Or.inl (hv_in 1490 (by decide +kernel) (by decide +kernel)))⟩
theorem mv_X10_323 : hv_MV RX10 323 10 m_X10_asBefore 1 := ⟨mw_X10_asBefore, (hv_in 1496 (by decide +kernel) (by decide +kernel)), (hv_in 114 (by decide +kernel) (by decide +kernel)), ⟨TX10, 52, rfl⟩, (Or.inl (hv_in 1494 (by decide +kernel) (by decide +kernel)))⟩
theorem mv_L_128 : hv_MV RL 128 10 m_X10_late 1 := ⟨mw_X10_late, (hv_in 1499 (by decide +kernel) (by decide +kernel)), (hv_in 1500 (by decide +kernel) (by decide +kernel)), ⟨TX10, 52, rfl⟩, (Or.inl (hv_in 1498 (by decide +kernel) (by decide +kernel)))⟩
theorem mv_L_132 : hv_MV RL 132 10 m_X10_fewest 1 := ⟨mw_X10_fewest, (hv_in 1503 (by decide +kernel) (by decide +kernel)), (hv_in 1504 (by decide +kernel) (by decide +kernel)), ⟨TX10, 52, rfl⟩, (Or.inl (hv_in 1502 (by decide +kernel) (by decide +kernel)))⟩
theorem mv_L_136 : hv_MV RL 136 10 m_X10_table 3 := ⟨mw_X10_table, (hv_in 1507 (by decide +kernel) (by decide +kernel)), (hv_in 1508 (by decide +kernel) (by decide +kernel)), ⟨TX10, 52, rfl⟩, (Or.inl (hv_in 1506 (by decide +kernel) (by decide +kernel)))⟩
theorem mv_X10_326 : hv_MV RX10 326 10 m_X10_isTape 1 := ⟨mw_X10_isTape, (hv_in 1512 (by decide +kernel) (by decide +kernel)), (hv_in 115 (by decide +kernel) (by decide +kernel)), ⟨TX10, 52, rfl⟩, (Or.inl (hv_in 1510 (by decide +kernel) (by decide +kernel)))⟩
theorem mv_L_141 : hv_MV RL 141 10 m_X10_act 4 := ⟨mw_X10_act, (hv_in 1515 (by decide +kernel) (by decide +kernel)), (hv_in 1516 (by decide +kernel) (by decide +kernel)), ⟨TX10, 52, rfl⟩, (Or.inl (hv_in 1514 (by decide +kernel) (by decide +kernel)))⟩
theorem mv_X10_338 : hv_MV RX10 338 10 m_X10_gives 3 := ⟨mw_X10_gives, (hv_in 1520 (by decide +kernel) (by decide +kernel)), (hv_in 116 (by decide +kernel) (by decide +kernel)), ⟨TX10, 52, rfl⟩, (Or.inl (hv_in 1518 (by decide +kernel) (by decide +kernel)))⟩
theorem mv_X10_329 : hv_MV RX10 329 10 m_X10_body 1 := ⟨mw_X10_body, (hv_in 1524 (by decide +kernel) (by decide +kernel)), (hv_in 117 (by decide +kernel) (by decide +kernel)), ⟨TX10, 52, rfl⟩, (Or.inl (hv_in 1522 (by decide +kernel) (by decide +kernel)))⟩
theorem mv_X10_335 : hv_MV RX10 335 10 m_X10_giveGives 2 := ⟨mw_X10_giveGives, (hv_in 1528 (by decide +kernel) (by decide +kernel)), (hv_in 118 (by decide +kernel) (by decide +kernel)), ⟨TX10, 52, rfl⟩, (Or.inl (hv_in 1526 (by decide +kernel) (by decide +kernel)))⟩
theorem mv_X10_332 : hv_MV RX10 332 10 m_X10_plainGives 2 := ⟨mw_X10_plainGives, (hv_in 1532 (by decide +kernel) (by decide +kernel)), (hv_in 119 (by decide +kernel) (by decide +kernel)), ⟨TX10, 52, rfl⟩, (Or.inl (hv_in 1530 (by decide +kernel) (by decide +kernel)))⟩
theorem mv_X10_348 : hv_MV RX10 348 10 m_X10_holds 3 := ⟨mw_X10_holds, (hv_in 1536 (by decide +kernel) (by decide +kernel)), (hv_in 120 (by decide +kernel) (by decide +kernel)), ⟨TX10, 52, rfl⟩, (Or.inl (hv_in 1534 (by decide +kernel) (by decide +kernel)))⟩
theorem mv_X10_345 : hv_MV RX10 345 10 m_X10_giveHolds 3 := ⟨mw_X10_giveHolds, (hv_in 1540 (by decide +kernel) (by decide +kernel)), (hv_in 121 (by decide +kernel) (by decide +kernel)), ⟨TX10, 52, rfl⟩, (Or.inl (hv_in 1538 (by decide +kernel) (by decide +kernel)))⟩
theorem mv_X10_342 : hv_MV RX10 342 10 m_X10_plainHolds 3 := ⟨mw_X10_plainHolds, (hv_in 1544 (by decide +kernel) (by decide +kernel)), (hv_in 122 (by decide +kernel) (by decide +kernel)), ⟨TX10, 52, rfl⟩, (Or.inl (hv_in 1542 (by decide +kernel) (by decide +kernel)))⟩
theorem mv_X10_354 : hv_MV RX10 354 10 m_X10_tells 3 := ⟨mw_X10_tells, (hv_in 1548 (by decide +kernel) (by decide +kernel)), (hv_in 123 (by decide +kernel) (by decide +kernel)), ⟨TX10, 52, rfl⟩, (Or.inl (hv_in 1546 (by decide +kernel) (by decide +kernel)))⟩
theorem mv_X10_351 : hv_MV RX10 351 10 m_X10_plainTells 3 := ⟨mw_X10_plainTells, (hv_in 1552 (by decide +kernel) (by decide +kernel)), (hv_in 124 (by decide +kernel) (by decide +kernel)), ⟨TX10, 52, rfl⟩, (Or.inl (hv_in 1550 (by decide +kernel) (by decide +kernel)))⟩
theorem mv_L_145 : hv_MV RL 145 10 m_X10_trace 1 := ⟨mw_X10_trace, (hv_in 1555 (by decide +kernel) (by decide +kernel)), (hv_in 1556 (by decide +kernel) (by decide +kernel)), ⟨TX10, 52, rfl⟩, (Or.inl (hv_in 1554 (by decide +kernel) (by decide +kernel)))⟩
theorem mv_L_149 : hv_MV RL 149 10 m_X10_taken 3 := ⟨mw_X10_taken, (hv_in 1559 (by decide +kernel) (by decide +kernel)), (hv_in 1560 (by decide +kernel) (by decide +kernel)), ⟨TX10, 52, rfl⟩, (Or.inl (hv_in 1558 (by decide +kernel) (by decide +kernel)))⟩
theorem mv_L_153 : hv_MV RL 153 10 m_X10_count 1 := ⟨mw_X10_count, (hv_in 1563 (by decide +kernel) (by decide +kernel)), (hv_in 1564 (by decide +kernel) (by decide +kernel)), ⟨TX10, 52, rfl⟩, (Or.inl (hv_in 1562 (by decide +kernel) (by decide +kernel)))⟩
theorem mv_L_157 : hv_MV RL 157 10 m_X10_tape 3 := ⟨mw_X10_tape, (hv_in 1567 (by decide +kernel) (by decide +kernel)), (hv_in 1568 (by decide +kernel) (by decide +kernel)), ⟨TX10, 52, rfl⟩, (Or.inl (hv_in 1566 (by decide +kernel) (by decide +kernel)))⟩
theorem mv_L_164 : hv_MV RL 164 10 m_X10_item 3 := ⟨mw_X10_item, (hv_in 1571 (by decide +kernel) (by decide +kernel)), (hv_in 1572 (by decide +kernel) (by decide +kernel)), ⟨TX10, 52, rfl⟩, (Or.inl (hv_in 1570 (by decide +kernel) (by decide +kernel)))⟩
theorem mv_X10_357 : hv_MV RX10 357 10 m_X10_narrow 2 := ⟨mw_X10_narrow, (hv_in 1576 (by decide +kernel) (by decide +kernel)), (hv_in 125 (by decide +kernel) (by decide +kernel)), ⟨TX10, 52, rfl⟩, (Or.inl (hv_in 1574 (by decide +kernel) (by decide +kernel)))⟩
theorem mv_L_168 : hv_MV RL 168 10 m_X10_read 2 := ⟨mw_X10_read, (hv_in 1579 (by decide +kernel) (by decide +kernel)), (hv_in 1580 (by decide +kernel) (by decide +kernel)), ⟨TX10, 52, rfl⟩, (Or.inl (hv_in 1578 (by decide +kernel) (by decide +kernel)))⟩
theorem mv_L_172 : hv_MV RL 172 10 m_X10_shift 5 := ⟨mw_X10_shift, (hv_in 1583 (by decide +kernel) (by decide +kernel)), (hv_in 1584 (by decide +kernel) (by decide +kernel)), ⟨TX10, 52, rfl⟩, (Or.inl (hv_in 1582 (by decide +kernel) (by decide +kernel)))⟩
theorem ko_J6_265 : Cond.constant RJ6 265 (1431655765) ∈ hv_all := (hv_in 738 (by decide +kernel) (by decide +kernel))
theorem ko_J6_266 : Cond.constant RJ6 266 (858993459) ∈ hv_all := (hv_in 739 (by decide +kernel) (by decide +kernel))
theorem ko_J6_267 : Cond.constant RJ6 267 (252645135) ∈ hv_all := (hv_in 740 (by decide +kernel) (by decide +kernel))
theorem ko_X10_212 : Cond.constant RX10 212 (464036) ∈ hv_all := (hv_in 1318 (by decide +kernel) (by decide +kernel))
theorem ko_X10_223 : Cond.constant RX10 223 (599495) ∈ hv_all := (hv_in 1319 (by decide +kernel) (by decide +kernel))
theorem kl_X9_160 : Cond.constantLong RX9 160 (-9223372036854775808) ∈ hv_all := (hv_in 760 (by decide +kernel) (by decide +kernel))
theorem kl_X6_112 : Cond.constantLong RX6 112 (10) ∈ hv_all := (hv_in 786 (by decide +kernel) (by decide +kernel))
theorem kl_X9_223 : Cond.constantLong RX9 223 (100000000) ∈ hv_all := (hv_in 863 (by decide +kernel) (by decide +kernel))
theorem kl_X8_69 : Cond.constantLong RX8 69 (-1) ∈ hv_all := (hv_in 911 (by decide +kernel) (by decide +kernel))
theorem kl_X10_279 : Cond.constantLong RX10 279 (-9223372036854775808) ∈ hv_all := (hv_in 1380 (by decide +kernel) (by decide +kernel))
theorem kl_X10_270 : Cond.constantLong RX10 270 (10) ∈ hv_all := (hv_in 1389 (by decide +kernel) (by decide +kernel))
theorem kl_L_158 : Cond.constantLong RL 158 (4294967295) ∈ hv_all := (hv_in 1586 (by decide +kernel) (by decide +kernel))
end
section
-- more rows
section X
variable {l : Launch} {E : hv_E} {R : Room} {cells slots : Nat} {M : hv_M} {Ψ : State → Array Value → Prop} {Z : hv_Zt} {pc : Nat} {lo : List (Nat × Value)} {st : List Value} {σ : hv_S}
theorem T_topi {x : Int32} (k : ∀ y : Int32, y = x → hv_TW l E R cells slots M Ψ Z pc lo (.int y :: st) σ) : hv_TW l E R cells slots M Ψ Z pc lo (.int x :: st) σ := k x rfl
theorem T_topl {x : Int64} (k : ∀ y : Int64, y = x → hv_TW l E R cells slots M Ψ Z pc lo (.long y :: st) σ) : hv_TW l E R cells slots M Ψ Z pc lo (.long x :: st) σ := k x rfl
theorem T_ldcw {i : Nat} {v : Int32} (hd : decode M.2.1 pc = .ok (.ldc_w i, 3)) (hw : Cond.constant M.1.cls i v ∈ hv_all) (k : hv_TW l E R cells slots M Ψ Z (pc + 3) lo (.int v :: st) σ) : hv_TW l E R cells slots M Ψ Z pc lo st σ := by
  intro p e s m args below meth c H locs ls hf hΨ hK hP hS hl
  exact lv_ldcw hf.1 hf.2.1 hf.2.2.2.1 (hf.2.2.2.2.1 _ (List.mem_cons_of_mem _ hw)) hd (k p e s m args below meth c H locs ls hf hΨ hK hP hS hl)
theorem lc_cases (x y : Int64) : (x < y ∧ lg_cmp x y = -1) ∨ (x = y ∧ lg_cmp x y = 0) ∨ (y < x ∧ lg_cmp x y = 1) := by
  unfold lg_cmp
  by_cases h1 : x > y
  · right; right; exact ⟨h1, by rw [if_pos h1]⟩
  · by_cases h2 : x = y
    · right; left; exact ⟨h2, by rw [if_neg h1, if_pos h2]⟩
    · left
      refine ⟨?_, by rw [if_neg h1, if_neg h2]⟩
      simp only [gt_iff_lt, Int64.lt_iff_toInt_lt, ← Int64.toInt_inj] at *
      omega
theorem lc_lt (x y : Int64) : lg_cmp x y < 0 ↔ x < y := by
  rcases lc_cases x y with ⟨h, e⟩ | ⟨h, e⟩ | ⟨h, e⟩ <;> rw [e]
  · exact ⟨fun _ => h, fun _ => by decide⟩
  · exact ⟨fun q => absurd q (by decide), fun q => by subst h; simp only [Int64.lt_iff_toInt_lt] at q; omega⟩
  · exact ⟨fun q => absurd q (by decide), fun q => by simp only [Int64.lt_iff_toInt_lt] at *; omega⟩
theorem lc_eq (x y : Int64) : lg_cmp x y = 0 ↔ x = y := by
  rcases lc_cases x y with ⟨h, e⟩ | ⟨h, e⟩ | ⟨h, e⟩ <;> rw [e]
  · exact ⟨fun q => absurd q (by decide), fun q => by subst q; simp only [Int64.lt_iff_toInt_lt] at h; omega⟩
  · exact ⟨fun _ => h, fun _ => rfl⟩
  · exact ⟨fun q => absurd q (by decide), fun q => by subst q; simp only [Int64.lt_iff_toInt_lt] at h; omega⟩
theorem lc_gt (x y : Int64) : 0 < lg_cmp x y ↔ y < x := by
  rcases lc_cases x y with ⟨h, e⟩ | ⟨h, e⟩ | ⟨h, e⟩ <;> rw [e]
  · exact ⟨fun q => absurd q (by decide), fun q => by simp only [Int64.lt_iff_toInt_lt] at *; omega⟩
  · exact ⟨fun q => absurd q (by decide), fun q => by subst h; simp only [Int64.lt_iff_toInt_lt] at q; omega⟩
  · exact ⟨fun _ => h, fun _ => by decide⟩
theorem lc_ge (x y : Int64) : 0 ≤ lg_cmp x y ↔ y ≤ x := by
  rcases lc_cases x y with ⟨h, e⟩ | ⟨h, e⟩ | ⟨h, e⟩ <;> rw [e]
  · exact ⟨fun q => absurd q (by decide), fun q => by simp only [Int64.lt_iff_toInt_lt, Int64.le_iff_toInt_le] at *; omega⟩
  · exact ⟨fun _ => by subst h; simp only [Int64.le_iff_toInt_le]; omega, fun _ => by decide⟩
  · exact ⟨fun _ => by simp only [Int64.lt_iff_toInt_lt, Int64.le_iff_toInt_le] at *; omega, fun _ => by decide⟩
theorem lc_le (x y : Int64) : lg_cmp x y ≤ 0 ↔ x ≤ y := by
  rcases lc_cases x y with ⟨h, e⟩ | ⟨h, e⟩ | ⟨h, e⟩ <;> rw [e]
  · exact ⟨fun _ => by simp only [Int64.lt_iff_toInt_lt, Int64.le_iff_toInt_le] at *; omega, fun _ => by decide⟩
  · exact ⟨fun _ => by subst h; simp only [Int64.le_iff_toInt_le]; omega, fun _ => by decide⟩
  · exact ⟨fun q => absurd q (by decide), fun q => by simp only [Int64.lt_iff_toInt_lt, Int64.le_iff_toInt_le] at *; omega⟩
theorem T_lc_lt {x y : Int64} {off : Int} {tgt : Nat} (hd : decode M.2.1 pc = .ok (.lcmp, 1)) (hd2 : decode M.2.1 (pc + 1) = .ok (.ifCond .lt off, 3)) (ht : ((pc + 1 : Nat) : Int) + off = (tgt : Int)) (h1 : x < y → hv_TW l E R cells slots M Ψ Z tgt lo st σ) (h2 : ¬ x < y → hv_TW l E R cells slots M Ψ Z (pc + 1 + 3) lo st σ) : hv_TW l E R cells slots M Ψ Z pc lo (.long y :: .long x :: st) σ :=
  T_lcmp hd (T_if_lt hd2 ht (fun q => h1 ((lc_lt x y).mp q)) (fun q => h2 (fun z => q ((lc_lt x y).mpr z))))
theorem T_lc_ge {x y : Int64} {off : Int} {tgt : Nat} (hd : decode M.2.1 pc = .ok (.lcmp, 1)) (hd2 : decode M.2.1 (pc + 1) = .ok (.ifCond .ge off, 3)) (ht : ((pc + 1 : Nat) : Int) + off = (tgt : Int)) (h1 : y ≤ x → hv_TW l E R cells slots M Ψ Z tgt lo st σ) (h2 : ¬ y ≤ x → hv_TW l E R cells slots M Ψ Z (pc + 1 + 3) lo st σ) : hv_TW l E R cells slots M Ψ Z pc lo (.long y :: .long x :: st) σ :=
  T_lcmp hd (T_if_ge hd2 ht (fun q => h1 ((lc_ge x y).mp q)) (fun q => h2 (fun z => q ((lc_ge x y).mpr z))))
theorem T_lc_gt {x y : Int64} {off : Int} {tgt : Nat} (hd : decode M.2.1 pc = .ok (.lcmp, 1)) (hd2 : decode M.2.1 (pc + 1) = .ok (.ifCond .gt off, 3)) (ht : ((pc + 1 : Nat) : Int) + off = (tgt : Int)) (h1 : y < x → hv_TW l E R cells slots M Ψ Z tgt lo st σ) (h2 : ¬ y < x → hv_TW l E R cells slots M Ψ Z (pc + 1 + 3) lo st σ) : hv_TW l E R cells slots M Ψ Z pc lo (.long y :: .long x :: st) σ :=
  T_lcmp hd (T_if_gt hd2 ht (fun q => h1 ((lc_gt x y).mp q)) (fun q => h2 (fun z => q ((lc_gt x y).mpr z))))
theorem T_lc_le {x y : Int64} {off : Int} {tgt : Nat} (hd : decode M.2.1 pc = .ok (.lcmp, 1)) (hd2 : decode M.2.1 (pc + 1) = .ok (.ifCond .le off, 3)) (ht : ((pc + 1 : Nat) : Int) + off = (tgt : Int)) (h1 : x ≤ y → hv_TW l E R cells slots M Ψ Z tgt lo st σ) (h2 : ¬ x ≤ y → hv_TW l E R cells slots M Ψ Z (pc + 1 + 3) lo st σ) : hv_TW l E R cells slots M Ψ Z pc lo (.long y :: .long x :: st) σ :=
  T_lcmp hd (T_if_le hd2 ht (fun q => h1 ((lc_le x y).mp q)) (fun q => h2 (fun z => q ((lc_le x y).mpr z))))
theorem T_lc_eq {x y : Int64} {off : Int} {tgt : Nat} (hd : decode M.2.1 pc = .ok (.lcmp, 1)) (hd2 : decode M.2.1 (pc + 1) = .ok (.ifCond .eq off, 3)) (ht : ((pc + 1 : Nat) : Int) + off = (tgt : Int)) (h1 : x = y → hv_TW l E R cells slots M Ψ Z tgt lo st σ) (h2 : ¬ x = y → hv_TW l E R cells slots M Ψ Z (pc + 1 + 3) lo st σ) : hv_TW l E R cells slots M Ψ Z pc lo (.long y :: .long x :: st) σ :=
  T_lcmp hd (T_if_eq hd2 ht (fun q => h1 ((lc_eq x y).mp q)) (fun q => h2 (fun z => q ((lc_eq x y).mpr z))))
theorem T_lc_ne {x y : Int64} {off : Int} {tgt : Nat} (hd : decode M.2.1 pc = .ok (.lcmp, 1)) (hd2 : decode M.2.1 (pc + 1) = .ok (.ifCond .ne off, 3)) (ht : ((pc + 1 : Nat) : Int) + off = (tgt : Int)) (h1 : x ≠ y → hv_TW l E R cells slots M Ψ Z tgt lo st σ) (h2 : x = y → hv_TW l E R cells slots M Ψ Z (pc + 1 + 3) lo st σ) : hv_TW l E R cells slots M Ψ Z pc lo (.long y :: .long x :: st) σ :=
  T_lcmp hd (T_if_ne hd2 ht (fun q => h1 (fun z => q ((lc_eq x y).mpr z))) (fun q => h2 ((lc_eq x y).mp q)))
end X
-- the two texts of rules, the rows of the tally
def hv_isR (r : Nat) : Prop := r = 11 ∨ r = 13
theorem hv_isRp {r : Nat} (h : hv_isR r) : r ∈ hv_pl1 := by rcases h with rfl | rfl <;> decide
theorem hv_isRs {r : Nat} (h : hv_isR r) : hv_sh1 r = .inl (4, hv_ft4) := by rcases h with rfl | rfl <;> rfl
theorem hv_isRq {r : Nat} (h : hv_isR r) : (r + 1) ∈ hv_pl1 := by rcases h with rfl | rfl <;> decide
theorem hv_isRt {r : Nat} (h : hv_isR r) : hv_sh1 (r + 1) = .inr (0, 100) := by rcases h with rfl | rfl <;> rfl
theorem hv_row8 {i : Int32} (h : vp_in i 8) : ∃ j : Nat, j < 8 ∧ i.toNatClampNeg = j := ⟨_, Nat.not_le.mp fun q => h (Or.inr q), rfl⟩
theorem hv_rowp {i : Int32} (h : vp_in i 8) : (24 + i.toNatClampNeg) ∈ hv_pl1 := by
  obtain ⟨j, hj, e⟩ := hv_row8 h
  rw [e]
  exact (show ∀ j, j < 8 → (24 + j) ∈ hv_pl1 by decide) j hj
theorem hv_rows {i : Int32} (h : vp_in i 8) : hv_sh1 (24 + i.toNatClampNeg) = .inr (1, 9) := by
  obtain ⟨j, hj, e⟩ := hv_row8 h
  rw [e]
  match j, hj with
  | 0, _ => rfl
  | 1, _ => rfl
  | 2, _ => rfl
  | 3, _ => rfl
  | 4, _ => rfl
  | 5, _ => rfl
  | 6, _ => rfl
  | 7, _ => rfl
theorem hv_ok1 {d d' : Nat} {M' : hv_M} (h : (Nat.ble (d' + 1) d && Nat.ble (8 + (M'.2.2.1 + 11) + 40 * d') (40 * d)) = true) : hv_ok (hv_rm d) 0 0 d' M' := by
  rw [Bool.and_eq_true] at h
  exact ⟨Nat.le_of_ble_eq_true h.1, Nat.le_of_ble_eq_true h.2, Nat.le_refl _, Nat.le_refl _⟩
theorem hv_ok2 {d d' : Nat} {M' : hv_M} (h : d' + 1 ≤ d) (hm : M'.2.2.1 ≤ 21) : hv_ok (hv_rm d) 0 0 d' M' := by
  refine ⟨h, ?_, Nat.le_refl _, Nat.le_refl _⟩
  show 8 + (M'.2.2.1 + 11) + 40 * d' ≤ 40 * d
  omega
section Y
variable {l : Launch} {E : hv_E} {R : Room} {cells slots : Nat} {M : hv_M} {Ψ : State → Array Value → Prop} {Z : hv_Zt} {pc : Nat} {lo : List (Nat × Value)} {st : List Value} {σ : hv_S}
theorem T_ldcS {idx i : Nat} (hd : decode M.2.1 pc = .ok (.ldc idx, 2)) (hm : M.1.cls = RX1) (hi : i < 7) (hx : hv_si.getD i 0 = idx) (k : hv_TW l E R cells slots M Ψ Z (pc + 2) lo (.ref (1000 + i) :: st) σ) : hv_TW l E R cells slots M Ψ Z pc lo st σ := by
  intro p e s m args below meth c H locs ls hf hΨ hK hP hS hl
  have h := hK.2.2.1 i hi
  rw [hx, ← hm] at h
  exact va_ldcS hf.1 hf.2.1 hf.2.2.2.1 h hd (k p e s m args below meth c H locs ls hf hΨ hK hP hS hl)
theorem T_getSv {idx i : Nat} (hd : decode M.2.1 pc = .ok (.getfield idx, 3)) (hi : i < 7) (hw : Cond.fieldLink M.1.cls idx "java/lang/String" "value" "[B" ∈ hv_all) (k : hv_TW l E R cells slots M Ψ Z (pc + 3) lo (.ref (2000 + i) :: st) σ) : hv_TW l E R cells slots M Ψ Z pc lo (.ref (1000 + i) :: st) σ := by
  intro p e s m args below meth c H locs ls hf hΨ hK hP hS hl
  exact vk_getf hf.1 hf.2.1 (hK.2.2.2.1.1 i hi).2.2.1 hS hf.2.2.2.1 (hf.2.2.2.2.1 _ (List.mem_cons_of_mem _ hw)) (fun _ h => h) hd (k p e s m args below meth c H locs ls hf hΨ hK hP hS hl)
theorem T_getSc {idx i : Nat} (hd : decode M.2.1 pc = .ok (.getfield idx, 3)) (hi : i < 7) (hw : Cond.fieldLink M.1.cls idx "java/lang/String" "coder" "B" ∈ hv_all) (k : hv_TW l E R cells slots M Ψ Z (pc + 3) lo (.int 0 :: st) σ) : hv_TW l E R cells slots M Ψ Z pc lo (.ref (1000 + i) :: st) σ := by
  intro p e s m args below meth c H locs ls hf hΨ hK hP hS hl
  exact vk_getf hf.1 hf.2.1 (hK.2.2.2.1.1 i hi).2.1 hS hf.2.2.2.1 (hf.2.2.2.2.1 _ (List.mem_cons_of_mem _ hw)) (fun _ h => h) hd (k p e s m args below meth c H locs ls hf hΨ hK hP hS hl)
theorem T_getsC {idx : Nat} (hd : decode M.2.1 pc = .ok (.getstatic idx, 3)) (hw : Cond.fieldLink M.1.cls idx "java/lang/String" "COMPACT_STRINGS" "Z" ∈ hv_all) (k : hv_TW l E R cells slots M Ψ Z (pc + 3) lo (.int 1 :: st) σ) : hv_TW l E R cells slots M Ψ Z pc lo st σ := by
  intro p e s m args below meth c H locs ls hf hΨ hK hP hS hl
  exact va_gets hf.1 hf.2.1 hK.2.2.2.2.1 hS hf.2.2.2.1 (hf.2.2.2.2.1 _ (List.mem_cons_of_mem _ hw)) (fun _ h => h) hd (k p e s m args below meth c H locs ls hf hΨ hK hP hS hl)
theorem T_getsF {idx : Nat} (hd : decode M.2.1 pc = .ok (.getstatic idx, 3)) (hw : Cond.fieldLink M.1.cls idx "jdk/internal/util/Preconditions" "SIOOBE_FORMATTER" "Ljava/util/function/BiFunction;" ∈ hv_all) (k : hv_TW l E R cells slots M Ψ Z (pc + 3) lo (.ref 3000 :: st) σ) : hv_TW l E R cells slots M Ψ Z pc lo st σ := by
  intro p e s m args below meth c H locs ls hf hΨ hK hP hS hl
  exact va_gets hf.1 hf.2.1 hK.2.2.2.2.2 hS hf.2.2.2.1 (hf.2.2.2.2.1 _ (List.mem_cons_of_mem _ hw)) (fun _ h => h) hd (k p e s m args below meth c H locs ls hf hΨ hK hP hS hl)
theorem T_alenS {i : Nat} {v : Int32} (hd : decode M.2.1 pc = .ok (.arraylength, 1)) (hi : i < 7) (hv : Int32.ofNat (hv_len.getD i 0) = v) (k : hv_TW l E R cells slots M Ψ Z (pc + 1) lo (.int v :: st) σ) : hv_TW l E R cells slots M Ψ Z pc lo (.ref (2000 + i) :: st) σ := by
  intro p e s m args below meth c H locs ls hf hΨ hK hP hS hl
  exact va_tlen hf.1 hf.2.1 (hK.2.2.2.1.1 i hi).2.2.2 hS hv hd (k p e s m args below meth c H locs ls hf hΨ hK hP hS hl)
theorem T_baldS {i : Nat} {j : Int32} (hd : decode M.2.1 pc = .ok (.baload, 1)) (hi : i < 7) (hin : vp_in j (hv_len.getD i 0)) (k : hv_TW l E R cells slots M Ψ Z (pc + 1) lo (.int ((hv_byt.getD i []).getD j.toNatClampNeg 0) :: st) σ) : hv_TW l E R cells slots M Ψ Z pc lo (.int j :: .ref (2000 + i) :: st) σ := by
  intro p e s m args below meth c H locs ls hf hΨ hK hP hS hl
  exact va_tb hf.1 hf.2.1 (hK.2.2.2.1.1 i hi).2.2.2 hS hin rfl hd (k p e s m args below meth c H locs ls hf hΨ hK hP hS hl)
theorem T_VIs {d idx i n : Nat} {M' : hv_M} {As st0 : List Value} {Φ : Int32 → hv_S → Prop} (hd : decode M.2.1 pc = .ok (.invokevirtual idx, 3)) (mv : hv_MV0 M.1.cls idx M' n) (hi : i < 7) (hS' : M'.1.cls = "java/lang/String") (hn : As.length = n) (hst : (st.map fun v => v.category).sum ≤ 8) (ok : hv_ok R cells slots d M') (h0 : As.reverse ++ .ref (1000 + i) :: st = st0)
    (hc : hv_CI l E d M' (.ref (1000 + i) :: As) σ Φ) (k : ∀ (v : Int32) (σ' : hv_S), Φ v σ' → hv_TW l E R cells slots M Ψ Z (pc + 3) lo (.int v :: st) σ') : hv_TW l E R cells slots M Ψ Z pc lo st0 σ := by
  intro p e s m args below meth c H locs ls hf hΨ hK hP hS hl
  subst h0
  exact va_calli (hv_runV0 hd mv hn hst ok hc (by rw [hS']; exact vk_recv hK.2.2.2.1 hi hS) hf hK hP hS hl) hS (fun q _ h => h) (fun q h => h) (fun r u t H1 locs1 ht hvm hw hB hz hk hS1 => k r u hw p e s m args below meth c H1 locs1 ls hf hΨ hK (by unfold hv_B at hB; rw [← ht]; exact hB) hS1 hl)
end Y
end
section
-- printed by wip/gen/p10a.py: Rules, Hands
theorem dX9_isMatter_0 : decode cX9_isMatter 0 = .ok (.iload_n 0, 1) := by decide +kernel
theorem dX9_isMatter_1 : decode cX9_isMatter 1 = .ok (.ifCond .lt 12, 3) := by decide +kernel
theorem dX9_isMatter_4 : decode cX9_isMatter 4 = .ok (.iload_n 0, 1) := by decide +kernel
theorem dX9_isMatter_5 : decode cX9_isMatter 5 = .ok (.iconst 3, 1) := by decide +kernel
theorem dX9_isMatter_6 : decode cX9_isMatter 6 = .ok (.if_icmp .ge 7, 3) := by decide +kernel
theorem dX9_isMatter_9 : decode cX9_isMatter 9 = .ok (.iconst 1, 1) := by decide +kernel
theorem dX9_isMatter_10 : decode cX9_isMatter 10 = .ok (.goto 4, 3) := by decide +kernel
theorem dX9_isMatter_13 : decode cX9_isMatter 13 = .ok (.iconst 0, 1) := by decide +kernel
theorem dX9_isMatter_14 : decode cX9_isMatter 14 = .ok (.ireturn, 1) := by decide +kernel
theorem dX9_isPart_0 : decode cX9_isPart 0 = .ok (.iload_n 0, 1) := by decide +kernel
theorem dX9_isPart_1 : decode cX9_isPart 1 = .ok (.ifCond .eq 8, 3) := by decide +kernel
theorem dX9_isPart_4 : decode cX9_isPart 4 = .ok (.iload_n 0, 1) := by decide +kernel
theorem dX9_isPart_5 : decode cX9_isPart 5 = .ok (.iconst 1, 1) := by decide +kernel
theorem dX9_isPart_6 : decode cX9_isPart 6 = .ok (.if_icmp .ne 7, 3) := by decide +kernel
theorem dX9_isPart_9 : decode cX9_isPart 9 = .ok (.iconst 1, 1) := by decide +kernel
theorem dX9_isPart_10 : decode cX9_isPart 10 = .ok (.goto 4, 3) := by decide +kernel
theorem dX9_isPart_13 : decode cX9_isPart 13 = .ok (.iconst 0, 1) := by decide +kernel
theorem dX9_isPart_14 : decode cX9_isPart 14 = .ok (.ireturn, 1) := by decide +kernel
theorem dX9_cell_0 : decode cX9_cell 0 = .ok (.iload_n 1, 1) := by decide +kernel
theorem dX9_cell_1 : decode cX9_cell 1 = .ok (.bipush 8, 2) := by decide +kernel
theorem dX9_cell_3 : decode cX9_cell 3 = .ok (.imul, 1) := by decide +kernel
theorem dX9_cell_4 : decode cX9_cell 4 = .ok (.iload_n 0, 1) := by decide +kernel
theorem dX9_cell_5 : decode cX9_cell 5 = .ok (.iadd, 1) := by decide +kernel
theorem dX9_cell_6 : decode cX9_cell 6 = .ok (.ireturn, 1) := by decide +kernel
theorem dX4_clear_0 : decode cX4_clear 0 = .ok (.aload_n 0, 1) := by decide +kernel
theorem dX4_clear_1 : decode cX4_clear 1 = .ok (.iconst 0, 1) := by decide +kernel
theorem dX4_clear_2 : decode cX4_clear 2 = .ok (.putfield 18, 3) := by decide +kernel
theorem dX4_clear_5 : decode cX4_clear 5 = .ok (.aload_n 0, 1) := by decide +kernel
theorem dX4_clear_6 : decode cX4_clear 6 = .ok (.sipush 999, 3) := by decide +kernel
theorem dX4_clear_9 : decode cX4_clear 9 = .ok (.putfield 22, 3) := by decide +kernel
theorem dX4_clear_12 : decode cX4_clear 12 = .ok (.aload_n 0, 1) := by decide +kernel
theorem dX4_clear_13 : decode cX4_clear 13 = .ok (.iconst 1, 1) := by decide +kernel
theorem dX4_clear_14 : decode cX4_clear 14 = .ok (.putfield 25, 3) := by decide +kernel
theorem dX4_clear_17 : decode cX4_clear 17 = .ok (.aload_n 0, 1) := by decide +kernel
theorem dX4_clear_18 : decode cX4_clear 18 = .ok (.iconst 2, 1) := by decide +kernel
theorem dX4_clear_19 : decode cX4_clear 19 = .ok (.putfield 28, 3) := by decide +kernel
theorem dX4_clear_22 : decode cX4_clear 22 = .ok (.aload_n 0, 1) := by decide +kernel
theorem dX4_clear_23 : decode cX4_clear 23 = .ok (.iconst 0, 1) := by decide +kernel
theorem dX4_clear_24 : decode cX4_clear 24 = .ok (.putfield 31, 3) := by decide +kernel
theorem dX4_clear_27 : decode cX4_clear 27 = .ok (.return_, 1) := by decide +kernel
theorem dX4_add_0 : decode cX4_add 0 = .ok (.aload_n 0, 1) := by decide +kernel
theorem dX4_add_1 : decode cX4_add 1 = .ok (.getfield 18, 3) := by decide +kernel
theorem dX4_add_4 : decode cX4_add 4 = .ok (.aload_n 0, 1) := by decide +kernel
theorem dX4_add_5 : decode cX4_add 5 = .ok (.getfield 9, 3) := by decide +kernel
theorem dX4_add_8 : decode cX4_add 8 = .ok (.arraylength, 1) := by decide +kernel
theorem dX4_add_9 : decode cX4_add 9 = .ok (.if_icmp .ge 23, 3) := by decide +kernel
theorem dX4_add_12 : decode cX4_add 12 = .ok (.aload_n 0, 1) := by decide +kernel
theorem dX4_add_13 : decode cX4_add 13 = .ok (.getfield 9, 3) := by decide +kernel
theorem dX4_add_16 : decode cX4_add 16 = .ok (.aload_n 0, 1) := by decide +kernel
theorem dX4_add_17 : decode cX4_add 17 = .ok (.getfield 18, 3) := by decide +kernel
theorem dX4_add_20 : decode cX4_add 20 = .ok (.iload_n 1, 1) := by decide +kernel
theorem dX4_add_21 : decode cX4_add 21 = .ok (.iastore, 1) := by decide +kernel
theorem dX4_add_22 : decode cX4_add 22 = .ok (.aload_n 0, 1) := by decide +kernel
theorem dX4_add_23 : decode cX4_add 23 = .ok (.dup, 1) := by decide +kernel
theorem dX4_add_24 : decode cX4_add 24 = .ok (.getfield 18, 3) := by decide +kernel
theorem dX4_add_27 : decode cX4_add 27 = .ok (.iconst 1, 1) := by decide +kernel
theorem dX4_add_28 : decode cX4_add 28 = .ok (.iadd, 1) := by decide +kernel
theorem dX4_add_29 : decode cX4_add 29 = .ok (.putfield 18, 3) := by decide +kernel
theorem dX4_add_32 : decode cX4_add 32 = .ok (.return_, 1) := by decide +kernel
theorem dX4_test_0 : decode cX4_test 0 = .ok (.iload_n 0, 1) := by decide +kernel
theorem dX4_test_1 : decode cX4_test 1 = .ok (.iconst 3, 1) := by decide +kernel
theorem dX4_test_2 : decode cX4_test 2 = .ok (.imul, 1) := by decide +kernel
theorem dX4_test_3 : decode cX4_test 3 = .ok (.iload_n 1, 1) := by decide +kernel
theorem dX4_test_4 : decode cX4_test 4 = .ok (.iadd, 1) := by decide +kernel
theorem dX4_test_5 : decode cX4_test 5 = .ok (.sipush 1000, 3) := by decide +kernel
theorem dX4_test_8 : decode cX4_test 8 = .ok (.imul, 1) := by decide +kernel
theorem dX4_test_9 : decode cX4_test 9 = .ok (.iload_n 2, 1) := by decide +kernel
theorem dX4_test_10 : decode cX4_test 10 = .ok (.iadd, 1) := by decide +kernel
theorem dX4_test_11 : decode cX4_test 11 = .ok (.ireturn, 1) := by decide +kernel
theorem dX4_isTrue_0 : decode cX4_isTrue 0 = .ok (.iload_n 0, 1) := by decide +kernel
theorem dX4_isTrue_1 : decode cX4_isTrue 1 = .ok (.sipush 1000, 3) := by decide +kernel
theorem dX4_isTrue_4 : decode cX4_isTrue 4 = .ok (.irem, 1) := by decide +kernel
theorem dX4_isTrue_5 : decode cX4_isTrue 5 = .ok (.istore_n 2, 1) := by decide +kernel
theorem dX4_isTrue_6 : decode cX4_isTrue 6 = .ok (.iload_n 0, 1) := by decide +kernel
theorem dX4_isTrue_7 : decode cX4_isTrue 7 = .ok (.sipush 1000, 3) := by decide +kernel
theorem dX4_isTrue_10 : decode cX4_isTrue 10 = .ok (.idiv, 1) := by decide +kernel
theorem dX4_isTrue_11 : decode cX4_isTrue 11 = .ok (.iconst 3, 1) := by decide +kernel
theorem dX4_isTrue_12 : decode cX4_isTrue 12 = .ok (.irem, 1) := by decide +kernel
theorem dX4_isTrue_13 : decode cX4_isTrue 13 = .ok (.istore_n 3, 1) := by decide +kernel
theorem dX4_isTrue_14 : decode cX4_isTrue 14 = .ok (.iload_n 0, 1) := by decide +kernel
theorem dX4_isTrue_15 : decode cX4_isTrue 15 = .ok (.sipush 1000, 3) := by decide +kernel
theorem dX4_isTrue_18 : decode cX4_isTrue 18 = .ok (.idiv, 1) := by decide +kernel
theorem dX4_isTrue_19 : decode cX4_isTrue 19 = .ok (.iconst 3, 1) := by decide +kernel
theorem dX4_isTrue_20 : decode cX4_isTrue 20 = .ok (.idiv, 1) := by decide +kernel
theorem dX4_isTrue_21 : decode cX4_isTrue 21 = .ok (.istore 4, 2) := by decide +kernel
theorem dX4_isTrue_23 : decode cX4_isTrue 23 = .ok (.iload 4, 2) := by decide +kernel
theorem dX4_isTrue_25 : decode cX4_isTrue 25 = .ok (.aload_n 1, 1) := by decide +kernel
theorem dX4_isTrue_26 : decode cX4_isTrue 26 = .ok (.arraylength, 1) := by decide +kernel
theorem dX4_isTrue_27 : decode cX4_isTrue 27 = .ok (.if_icmp .lt 5, 3) := by decide +kernel
theorem dX4_isTrue_30 : decode cX4_isTrue 30 = .ok (.iconst 0, 1) := by decide +kernel
theorem dX4_isTrue_31 : decode cX4_isTrue 31 = .ok (.ireturn, 1) := by decide +kernel
theorem dX4_isTrue_32 : decode cX4_isTrue 32 = .ok (.iload_n 3, 1) := by decide +kernel
theorem dX4_isTrue_33 : decode cX4_isTrue 33 = .ok (.lookupswitch 55 #[(0, 27), (1, 41)], 27) := by decide +kernel
theorem dX4_isTrue_60 : decode cX4_isTrue 60 = .ok (.aload_n 1, 1) := by decide +kernel
theorem dX4_isTrue_61 : decode cX4_isTrue 61 = .ok (.iload 4, 2) := by decide +kernel
theorem dX4_isTrue_63 : decode cX4_isTrue 63 = .ok (.iaload, 1) := by decide +kernel
theorem dX4_isTrue_64 : decode cX4_isTrue 64 = .ok (.iload_n 2, 1) := by decide +kernel
theorem dX4_isTrue_65 : decode cX4_isTrue 65 = .ok (.if_icmp .ge 7, 3) := by decide +kernel
theorem dX4_isTrue_68 : decode cX4_isTrue 68 = .ok (.iconst 1, 1) := by decide +kernel
theorem dX4_isTrue_69 : decode cX4_isTrue 69 = .ok (.goto 4, 3) := by decide +kernel
theorem dX4_isTrue_72 : decode cX4_isTrue 72 = .ok (.iconst 0, 1) := by decide +kernel
theorem dX4_isTrue_73 : decode cX4_isTrue 73 = .ok (.ireturn, 1) := by decide +kernel
theorem dX4_isTrue_74 : decode cX4_isTrue 74 = .ok (.aload_n 1, 1) := by decide +kernel
theorem dX4_isTrue_75 : decode cX4_isTrue 75 = .ok (.iload 4, 2) := by decide +kernel
theorem dX4_isTrue_77 : decode cX4_isTrue 77 = .ok (.iaload, 1) := by decide +kernel
theorem dX4_isTrue_78 : decode cX4_isTrue 78 = .ok (.iload_n 2, 1) := by decide +kernel
theorem dX4_isTrue_79 : decode cX4_isTrue 79 = .ok (.if_icmp .ne 7, 3) := by decide +kernel
theorem dX4_isTrue_82 : decode cX4_isTrue 82 = .ok (.iconst 1, 1) := by decide +kernel
theorem dX4_isTrue_83 : decode cX4_isTrue 83 = .ok (.goto 4, 3) := by decide +kernel
theorem dX4_isTrue_86 : decode cX4_isTrue 86 = .ok (.iconst 0, 1) := by decide +kernel
theorem dX4_isTrue_87 : decode cX4_isTrue 87 = .ok (.ireturn, 1) := by decide +kernel
theorem dX4_isTrue_88 : decode cX4_isTrue 88 = .ok (.aload_n 1, 1) := by decide +kernel
theorem dX4_isTrue_89 : decode cX4_isTrue 89 = .ok (.iload 4, 2) := by decide +kernel
theorem dX4_isTrue_91 : decode cX4_isTrue 91 = .ok (.iaload, 1) := by decide +kernel
theorem dX4_isTrue_92 : decode cX4_isTrue 92 = .ok (.iload_n 2, 1) := by decide +kernel
theorem dX4_isTrue_93 : decode cX4_isTrue 93 = .ok (.if_icmp .le 7, 3) := by decide +kernel
theorem dX4_isTrue_96 : decode cX4_isTrue 96 = .ok (.iconst 1, 1) := by decide +kernel
theorem dX4_isTrue_97 : decode cX4_isTrue 97 = .ok (.goto 4, 3) := by decide +kernel
theorem dX4_isTrue_100 : decode cX4_isTrue 100 = .ok (.iconst 0, 1) := by decide +kernel
theorem dX4_isTrue_101 : decode cX4_isTrue 101 = .ok (.ireturn, 1) := by decide +kernel
theorem dX4_forbid_0 : decode cX4_forbid 0 = .ok (.iconst 0, 1) := by decide +kernel
theorem dX4_forbid_1 : decode cX4_forbid 1 = .ok (.istore_n 2, 1) := by decide +kernel
theorem dX4_forbid_2 : decode cX4_forbid 2 = .ok (.iconst 0, 1) := by decide +kernel
theorem dX4_forbid_3 : decode cX4_forbid 3 = .ok (.istore_n 3, 1) := by decide +kernel
theorem dX4_forbid_4 : decode cX4_forbid 4 = .ok (.iload_n 3, 1) := by decide +kernel
theorem dX4_forbid_5 : decode cX4_forbid 5 = .ok (.aload_n 0, 1) := by decide +kernel
theorem dX4_forbid_6 : decode cX4_forbid 6 = .ok (.getfield 18, 3) := by decide +kernel
theorem dX4_forbid_9 : decode cX4_forbid 9 = .ok (.if_icmp .ge 88, 3) := by decide +kernel
theorem dX4_forbid_12 : decode cX4_forbid 12 = .ok (.aload_n 0, 1) := by decide +kernel
theorem dX4_forbid_13 : decode cX4_forbid 13 = .ok (.getfield 9, 3) := by decide +kernel
theorem dX4_forbid_16 : decode cX4_forbid 16 = .ok (.iload_n 3, 1) := by decide +kernel
theorem dX4_forbid_17 : decode cX4_forbid 17 = .ok (.iaload, 1) := by decide +kernel
theorem dX4_forbid_18 : decode cX4_forbid 18 = .ok (.istore 4, 2) := by decide +kernel
theorem dX4_forbid_20 : decode cX4_forbid 20 = .ok (.iload 4, 2) := by decide +kernel
theorem dX4_forbid_22 : decode cX4_forbid 22 = .ok (.ifCond .lt 25, 3) := by decide +kernel
theorem dX4_forbid_25 : decode cX4_forbid 25 = .ok (.iload_n 2, 1) := by decide +kernel
theorem dX4_forbid_26 : decode cX4_forbid 26 = .ok (.iconst 1, 1) := by decide +kernel
theorem dX4_forbid_27 : decode cX4_forbid 27 = .ok (.ishl, 1) := by decide +kernel
theorem dX4_forbid_28 : decode cX4_forbid 28 = .ok (.iload 4, 2) := by decide +kernel
theorem dX4_forbid_30 : decode cX4_forbid 30 = .ok (.aload_n 1, 1) := by decide +kernel
theorem dX4_forbid_31 : decode cX4_forbid 31 = .ok (.invokestatic 35, 3) := by decide +kernel
theorem dX4_forbid_34 : decode cX4_forbid 34 = .ok (.ifCond .eq 7, 3) := by decide +kernel
theorem dX4_forbid_37 : decode cX4_forbid 37 = .ok (.iconst 1, 1) := by decide +kernel
theorem dX4_forbid_38 : decode cX4_forbid 38 = .ok (.goto 4, 3) := by decide +kernel
theorem dX4_forbid_41 : decode cX4_forbid 41 = .ok (.iconst 0, 1) := by decide +kernel
theorem dX4_forbid_42 : decode cX4_forbid 42 = .ok (.ior, 1) := by decide +kernel
theorem dX4_forbid_43 : decode cX4_forbid 43 = .ok (.istore_n 2, 1) := by decide +kernel
theorem dX4_forbid_44 : decode cX4_forbid 44 = .ok (.goto 47, 3) := by decide +kernel
theorem dX4_forbid_47 : decode cX4_forbid 47 = .ok (.iload 4, 2) := by decide +kernel
theorem dX4_forbid_49 : decode cX4_forbid 49 = .ok (.iconst (-1), 1) := by decide +kernel
theorem dX4_forbid_50 : decode cX4_forbid 50 = .ok (.if_icmp .ne 10, 3) := by decide +kernel
theorem dX4_forbid_53 : decode cX4_forbid 53 = .ok (.iload_n 2, 1) := by decide +kernel
theorem dX4_forbid_54 : decode cX4_forbid 54 = .ok (.iconst 1, 1) := by decide +kernel
theorem dX4_forbid_55 : decode cX4_forbid 55 = .ok (.ixor, 1) := by decide +kernel
theorem dX4_forbid_56 : decode cX4_forbid 56 = .ok (.istore_n 2, 1) := by decide +kernel
theorem dX4_forbid_57 : decode cX4_forbid 57 = .ok (.goto 34, 3) := by decide +kernel
theorem dX4_forbid_60 : decode cX4_forbid 60 = .ok (.iload_n 2, 1) := by decide +kernel
theorem dX4_forbid_61 : decode cX4_forbid 61 = .ok (.iconst 1, 1) := by decide +kernel
theorem dX4_forbid_62 : decode cX4_forbid 62 = .ok (.iand, 1) := by decide +kernel
theorem dX4_forbid_63 : decode cX4_forbid 63 = .ok (.istore 5, 2) := by decide +kernel
theorem dX4_forbid_65 : decode cX4_forbid 65 = .ok (.iload_n 2, 1) := by decide +kernel
theorem dX4_forbid_66 : decode cX4_forbid 66 = .ok (.iconst 1, 1) := by decide +kernel
theorem dX4_forbid_67 : decode cX4_forbid 67 = .ok (.iushr, 1) := by decide +kernel
theorem dX4_forbid_68 : decode cX4_forbid 68 = .ok (.istore_n 2, 1) := by decide +kernel
theorem dX4_forbid_69 : decode cX4_forbid 69 = .ok (.iload 4, 2) := by decide +kernel
theorem dX4_forbid_71 : decode cX4_forbid 71 = .ok (.bipush (-3), 2) := by decide +kernel
theorem dX4_forbid_73 : decode cX4_forbid 73 = .ok (.if_icmp .ne 10, 3) := by decide +kernel
theorem dX4_forbid_76 : decode cX4_forbid 76 = .ok (.iload_n 2, 1) := by decide +kernel
theorem dX4_forbid_77 : decode cX4_forbid 77 = .ok (.iload 5, 2) := by decide +kernel
theorem dX4_forbid_79 : decode cX4_forbid 79 = .ok (.ior, 1) := by decide +kernel
theorem dX4_forbid_80 : decode cX4_forbid 80 = .ok (.goto 10, 3) := by decide +kernel
theorem dX4_forbid_83 : decode cX4_forbid 83 = .ok (.iload_n 2, 1) := by decide +kernel
theorem dX4_forbid_84 : decode cX4_forbid 84 = .ok (.iload 5, 2) := by decide +kernel
theorem dX4_forbid_86 : decode cX4_forbid 86 = .ok (.bipush (-2), 2) := by decide +kernel
theorem dX4_forbid_88 : decode cX4_forbid 88 = .ok (.ior, 1) := by decide +kernel
theorem dX4_forbid_89 : decode cX4_forbid 89 = .ok (.iand, 1) := by decide +kernel
theorem dX4_forbid_90 : decode cX4_forbid 90 = .ok (.istore_n 2, 1) := by decide +kernel
theorem dX4_forbid_91 : decode cX4_forbid 91 = .ok (.iinc 3 1, 3) := by decide +kernel
theorem dX4_forbid_94 : decode cX4_forbid 94 = .ok (.goto (-90), 3) := by decide +kernel
theorem dX4_forbid_97 : decode cX4_forbid 97 = .ok (.iload_n 2, 1) := by decide +kernel
theorem dX4_forbid_98 : decode cX4_forbid 98 = .ok (.ifCond .eq 7, 3) := by decide +kernel
theorem dX4_forbid_101 : decode cX4_forbid 101 = .ok (.iconst 1, 1) := by decide +kernel
theorem dX4_forbid_102 : decode cX4_forbid 102 = .ok (.goto 4, 3) := by decide +kernel
theorem dX4_forbid_105 : decode cX4_forbid 105 = .ok (.iconst 0, 1) := by decide +kernel
theorem dX4_forbid_106 : decode cX4_forbid 106 = .ok (.ireturn, 1) := by decide +kernel
theorem dX2_sits_0 : decode cX2_sits 0 = .ok (.iload_n 1, 1) := by decide +kernel
theorem dX2_sits_1 : decode cX2_sits 1 = .ok (.ifCond .lt 15, 3) := by decide +kernel
theorem dX2_sits_4 : decode cX2_sits 4 = .ok (.iload_n 1, 1) := by decide +kernel
theorem dX2_sits_5 : decode cX2_sits 5 = .ok (.aload_n 0, 1) := by decide +kernel
theorem dX2_sits_6 : decode cX2_sits 6 = .ok (.getfield 39, 3) := by decide +kernel
theorem dX2_sits_9 : decode cX2_sits 9 = .ok (.if_icmp .ge 7, 3) := by decide +kernel
theorem dX2_sits_12 : decode cX2_sits 12 = .ok (.iconst 1, 1) := by decide +kernel
theorem dX2_sits_13 : decode cX2_sits 13 = .ok (.goto 4, 3) := by decide +kernel
theorem dX2_sits_16 : decode cX2_sits 16 = .ok (.iconst 0, 1) := by decide +kernel
theorem dX2_sits_17 : decode cX2_sits 17 = .ok (.ireturn, 1) := by decide +kernel
theorem dX2_opinion_0 : decode cX2_opinion 0 = .ok (.aload_n 0, 1) := by decide +kernel
theorem dX2_opinion_1 : decode cX2_opinion 1 = .ok (.getfield 9, 3) := by decide +kernel
theorem dX2_opinion_4 : decode cX2_opinion 4 = .ok (.iload_n 2, 1) := by decide +kernel
theorem dX2_opinion_5 : decode cX2_opinion 5 = .ok (.iaload, 1) := by decide +kernel
theorem dX2_opinion_6 : decode cX2_opinion 6 = .ok (.iload_n 1, 1) := by decide +kernel
theorem dX2_opinion_7 : decode cX2_opinion 7 = .ok (.ishr, 1) := by decide +kernel
theorem dX2_opinion_8 : decode cX2_opinion 8 = .ok (.iconst 1, 1) := by decide +kernel
theorem dX2_opinion_9 : decode cX2_opinion 9 = .ok (.iand, 1) := by decide +kernel
theorem dX2_opinion_10 : decode cX2_opinion 10 = .ok (.ireturn, 1) := by decide +kernel
theorem dX2_form_0 : decode cX2_form 0 = .ok (.iconst 1, 1) := by decide +kernel
theorem dX2_form_1 : decode cX2_form 1 = .ok (.iload_n 1, 1) := by decide +kernel
theorem dX2_form_2 : decode cX2_form 2 = .ok (.ishl, 1) := by decide +kernel
theorem dX2_form_3 : decode cX2_form 3 = .ok (.istore 5, 2) := by decide +kernel
theorem dX2_form_5 : decode cX2_form 5 = .ok (.aload_n 0, 1) := by decide +kernel
theorem dX2_form_6 : decode cX2_form 6 = .ok (.getfield 9, 3) := by decide +kernel
theorem dX2_form_9 : decode cX2_form 9 = .ok (.iload_n 2, 1) := by decide +kernel
theorem dX2_form_10 : decode cX2_form 10 = .ok (.iload_n 3, 1) := by decide +kernel
theorem dX2_form_11 : decode cX2_form 11 = .ok (.ifCond .eq 15, 3) := by decide +kernel
theorem dX2_form_14 : decode cX2_form 14 = .ok (.aload_n 0, 1) := by decide +kernel
theorem dX2_form_15 : decode cX2_form 15 = .ok (.getfield 9, 3) := by decide +kernel
theorem dX2_form_18 : decode cX2_form 18 = .ok (.iload_n 2, 1) := by decide +kernel
theorem dX2_form_19 : decode cX2_form 19 = .ok (.iaload, 1) := by decide +kernel
theorem dX2_form_20 : decode cX2_form 20 = .ok (.iload 5, 2) := by decide +kernel
theorem dX2_form_22 : decode cX2_form 22 = .ok (.ior, 1) := by decide +kernel
theorem dX2_form_23 : decode cX2_form 23 = .ok (.goto 14, 3) := by decide +kernel
theorem dX2_form_26 : decode cX2_form 26 = .ok (.aload_n 0, 1) := by decide +kernel
theorem dX2_form_27 : decode cX2_form 27 = .ok (.getfield 9, 3) := by decide +kernel
theorem dX2_form_30 : decode cX2_form 30 = .ok (.iload_n 2, 1) := by decide +kernel
theorem dX2_form_31 : decode cX2_form 31 = .ok (.iaload, 1) := by decide +kernel
theorem dX2_form_32 : decode cX2_form 32 = .ok (.iload 5, 2) := by decide +kernel
theorem dX2_form_34 : decode cX2_form 34 = .ok (.iconst (-1), 1) := by decide +kernel
theorem dX2_form_35 : decode cX2_form 35 = .ok (.ixor, 1) := by decide +kernel
theorem dX2_form_36 : decode cX2_form 36 = .ok (.iand, 1) := by decide +kernel
theorem dX2_form_37 : decode cX2_form 37 = .ok (.iastore, 1) := by decide +kernel
theorem dX2_form_38 : decode cX2_form 38 = .ok (.aload_n 0, 1) := by decide +kernel
theorem dX2_form_39 : decode cX2_form 39 = .ok (.getfield 15, 3) := by decide +kernel
theorem dX2_form_42 : decode cX2_form 42 = .ok (.iload_n 1, 1) := by decide +kernel
theorem dX2_form_43 : decode cX2_form 43 = .ok (.iload_n 2, 1) := by decide +kernel
theorem dX2_form_44 : decode cX2_form 44 = .ok (.invokestatic 43, 3) := by decide +kernel
theorem dX2_form_47 : decode cX2_form 47 = .ok (.iload 4, 2) := by decide +kernel
theorem dX2_form_49 : decode cX2_form 49 = .ok (.iastore, 1) := by decide +kernel
theorem dX2_form_50 : decode cX2_form 50 = .ok (.return_, 1) := by decide +kernel
theorem dX2_renew_0 : decode cX2_renew 0 = .ok (.aload_n 0, 1) := by decide +kernel
theorem dX2_renew_1 : decode cX2_renew 1 = .ok (.getfield 18, 3) := by decide +kernel
theorem dX2_renew_4 : decode cX2_renew 4 = .ok (.iload_n 1, 1) := by decide +kernel
theorem dX2_renew_5 : decode cX2_renew 5 = .ok (.iaload, 1) := by decide +kernel
theorem dX2_renew_6 : decode cX2_renew 6 = .ok (.istore 6, 2) := by decide +kernel
theorem dX2_renew_8 : decode cX2_renew 8 = .ok (.aload_n 0, 1) := by decide +kernel
theorem dX2_renew_9 : decode cX2_renew 9 = .ok (.getfield 18, 3) := by decide +kernel
theorem dX2_renew_12 : decode cX2_renew 12 = .ok (.iload_n 1, 1) := by decide +kernel
theorem dX2_renew_13 : decode cX2_renew 13 = .ok (.iload_n 2, 1) := by decide +kernel
theorem dX2_renew_14 : decode cX2_renew 14 = .ok (.iastore, 1) := by decide +kernel
theorem dX2_renew_15 : decode cX2_renew 15 = .ok (.aload_n 0, 1) := by decide +kernel
theorem dX2_renew_16 : decode cX2_renew 16 = .ok (.getfield 21, 3) := by decide +kernel
theorem dX2_renew_19 : decode cX2_renew 19 = .ok (.iload_n 1, 1) := by decide +kernel
theorem dX2_renew_20 : decode cX2_renew 20 = .ok (.bipush 100, 2) := by decide +kernel
theorem dX2_renew_22 : decode cX2_renew 22 = .ok (.iastore, 1) := by decide +kernel
theorem dX2_renew_23 : decode cX2_renew 23 = .ok (.aload_n 0, 1) := by decide +kernel
theorem dX2_renew_24 : decode cX2_renew 24 = .ok (.getfield 24, 3) := by decide +kernel
theorem dX2_renew_27 : decode cX2_renew 27 = .ok (.iload_n 1, 1) := by decide +kernel
theorem dX2_renew_28 : decode cX2_renew 28 = .ok (.iload_n 3, 1) := by decide +kernel
theorem dX2_renew_29 : decode cX2_renew 29 = .ok (.iastore, 1) := by decide +kernel
theorem dX2_renew_30 : decode cX2_renew 30 = .ok (.aload_n 0, 1) := by decide +kernel
theorem dX2_renew_31 : decode cX2_renew 31 = .ok (.getfield 27, 3) := by decide +kernel
theorem dX2_renew_34 : decode cX2_renew 34 = .ok (.iload_n 1, 1) := by decide +kernel
theorem dX2_renew_35 : decode cX2_renew 35 = .ok (.iload 4, 2) := by decide +kernel
theorem dX2_renew_37 : decode cX2_renew 37 = .ok (.iastore, 1) := by decide +kernel
theorem dX2_renew_38 : decode cX2_renew 38 = .ok (.aload_n 0, 1) := by decide +kernel
theorem dX2_renew_39 : decode cX2_renew 39 = .ok (.getfield 30, 3) := by decide +kernel
theorem dX2_renew_42 : decode cX2_renew 42 = .ok (.iload_n 1, 1) := by decide +kernel
theorem dX2_renew_43 : decode cX2_renew 43 = .ok (.iload 5, 2) := by decide +kernel
theorem dX2_renew_45 : decode cX2_renew 45 = .ok (.iastore, 1) := by decide +kernel
theorem dX2_renew_46 : decode cX2_renew 46 = .ok (.iload 6, 2) := by decide +kernel
theorem dX2_renew_48 : decode cX2_renew 48 = .ok (.ireturn, 1) := by decide +kernel
theorem dX2_isSelf_0 : decode cX2_isSelf 0 = .ok (.aload_n 0, 1) := by decide +kernel
theorem dX2_isSelf_1 : decode cX2_isSelf 1 = .ok (.getfield 18, 3) := by decide +kernel
theorem dX2_isSelf_4 : decode cX2_isSelf 4 = .ok (.iload_n 1, 1) := by decide +kernel
theorem dX2_isSelf_5 : decode cX2_isSelf 5 = .ok (.iaload, 1) := by decide +kernel
theorem dX2_isSelf_6 : decode cX2_isSelf 6 = .ok (.iconst 1, 1) := by decide +kernel
theorem dX2_isSelf_7 : decode cX2_isSelf 7 = .ok (.if_icmp .le 13, 3) := by decide +kernel
theorem dX2_isSelf_10 : decode cX2_isSelf 10 = .ok (.iload_n 2, 1) := by decide +kernel
theorem dX2_isSelf_11 : decode cX2_isSelf 11 = .ok (.aload_n 0, 1) := by decide +kernel
theorem dX2_isSelf_12 : decode cX2_isSelf 12 = .ok (.getfield 21, 3) := by decide +kernel
theorem dX2_isSelf_15 : decode cX2_isSelf 15 = .ok (.iload_n 1, 1) := by decide +kernel
theorem dX2_isSelf_16 : decode cX2_isSelf 16 = .ok (.iaload, 1) := by decide +kernel
theorem dX2_isSelf_17 : decode cX2_isSelf 17 = .ok (.if_icmp .lt 7, 3) := by decide +kernel
theorem dX2_isSelf_20 : decode cX2_isSelf 20 = .ok (.iconst 1, 1) := by decide +kernel
theorem dX2_isSelf_21 : decode cX2_isSelf 21 = .ok (.goto 4, 3) := by decide +kernel
theorem dX2_isSelf_24 : decode cX2_isSelf 24 = .ok (.iconst 0, 1) := by decide +kernel
theorem dX2_isSelf_25 : decode cX2_isSelf 25 = .ok (.ireturn, 1) := by decide +kernel
theorem dX2_surestOf_0 : decode cX2_surestOf 0 = .ok (.bipush (-5), 2) := by decide +kernel
theorem dX2_surestOf_2 : decode cX2_surestOf 2 = .ok (.istore_n 3, 1) := by decide +kernel
theorem dX2_surestOf_3 : decode cX2_surestOf 3 = .ok (.iconst (-1), 1) := by decide +kernel
theorem dX2_surestOf_4 : decode cX2_surestOf 4 = .ok (.istore 4, 2) := by decide +kernel
theorem dX2_surestOf_6 : decode cX2_surestOf 6 = .ok (.iconst 0, 1) := by decide +kernel
theorem dX2_surestOf_7 : decode cX2_surestOf 7 = .ok (.istore 5, 2) := by decide +kernel
theorem dX2_surestOf_9 : decode cX2_surestOf 9 = .ok (.iload 5, 2) := by decide +kernel
theorem dX2_surestOf_11 : decode cX2_surestOf 11 = .ok (.aload_n 0, 1) := by decide +kernel
theorem dX2_surestOf_12 : decode cX2_surestOf 12 = .ok (.getfield 39, 3) := by decide +kernel
theorem dX2_surestOf_15 : decode cX2_surestOf 15 = .ok (.if_icmp .ge 45, 3) := by decide +kernel
theorem dX2_surestOf_18 : decode cX2_surestOf 18 = .ok (.aload_n 0, 1) := by decide +kernel
theorem dX2_surestOf_19 : decode cX2_surestOf 19 = .ok (.getfield 15, 3) := by decide +kernel
theorem dX2_surestOf_22 : decode cX2_surestOf 22 = .ok (.iload 5, 2) := by decide +kernel
theorem dX2_surestOf_24 : decode cX2_surestOf 24 = .ok (.iload_n 1, 1) := by decide +kernel
theorem dX2_surestOf_25 : decode cX2_surestOf 25 = .ok (.invokestatic 43, 3) := by decide +kernel
theorem dX2_surestOf_28 : decode cX2_surestOf 28 = .ok (.iaload, 1) := by decide +kernel
theorem dX2_surestOf_29 : decode cX2_surestOf 29 = .ok (.istore 6, 2) := by decide +kernel
theorem dX2_surestOf_31 : decode cX2_surestOf 31 = .ok (.iload_n 2, 1) := by decide +kernel
theorem dX2_surestOf_32 : decode cX2_surestOf 32 = .ok (.iload 5, 2) := by decide +kernel
theorem dX2_surestOf_34 : decode cX2_surestOf 34 = .ok (.ishr, 1) := by decide +kernel
theorem dX2_surestOf_35 : decode cX2_surestOf 35 = .ok (.iconst 1, 1) := by decide +kernel
theorem dX2_surestOf_36 : decode cX2_surestOf 36 = .ok (.iand, 1) := by decide +kernel
theorem dX2_surestOf_37 : decode cX2_surestOf 37 = .ok (.ifCond .eq 17, 3) := by decide +kernel
theorem dX2_surestOf_40 : decode cX2_surestOf 40 = .ok (.iload 6, 2) := by decide +kernel
theorem dX2_surestOf_42 : decode cX2_surestOf 42 = .ok (.iload 4, 2) := by decide +kernel
theorem dX2_surestOf_44 : decode cX2_surestOf 44 = .ok (.if_icmp .le 10, 3) := by decide +kernel
theorem dX2_surestOf_47 : decode cX2_surestOf 47 = .ok (.iload 5, 2) := by decide +kernel
theorem dX2_surestOf_49 : decode cX2_surestOf 49 = .ok (.istore_n 3, 1) := by decide +kernel
theorem dX2_surestOf_50 : decode cX2_surestOf 50 = .ok (.iload 6, 2) := by decide +kernel
theorem dX2_surestOf_52 : decode cX2_surestOf 52 = .ok (.istore 4, 2) := by decide +kernel
theorem dX2_surestOf_54 : decode cX2_surestOf 54 = .ok (.iinc 5 1, 3) := by decide +kernel
theorem dX2_surestOf_57 : decode cX2_surestOf 57 = .ok (.goto (-48), 3) := by decide +kernel
theorem dX2_surestOf_60 : decode cX2_surestOf 60 = .ok (.iload_n 3, 1) := by decide +kernel
theorem dX2_surestOf_61 : decode cX2_surestOf 61 = .ok (.ireturn, 1) := by decide +kernel
theorem dX2_takenBackAt_0 : decode cX2_takenBackAt 0 = .ok (.iconst 0, 1) := by decide +kernel
theorem dX2_takenBackAt_1 : decode cX2_takenBackAt 1 = .ok (.istore_n 3, 1) := by decide +kernel
theorem dX2_takenBackAt_2 : decode cX2_takenBackAt 2 = .ok (.iconst 0, 1) := by decide +kernel
theorem dX2_takenBackAt_3 : decode cX2_takenBackAt 3 = .ok (.istore 4, 2) := by decide +kernel
theorem dX2_takenBackAt_5 : decode cX2_takenBackAt 5 = .ok (.iload 4, 2) := by decide +kernel
theorem dX2_takenBackAt_7 : decode cX2_takenBackAt 7 = .ok (.aload_n 0, 1) := by decide +kernel
theorem dX2_takenBackAt_8 : decode cX2_takenBackAt 8 = .ok (.getfield 39, 3) := by decide +kernel
theorem dX2_takenBackAt_11 : decode cX2_takenBackAt 11 = .ok (.if_icmp .ge 31, 3) := by decide +kernel
theorem dX2_takenBackAt_14 : decode cX2_takenBackAt 14 = .ok (.iload_n 2, 1) := by decide +kernel
theorem dX2_takenBackAt_15 : decode cX2_takenBackAt 15 = .ok (.aload_n 0, 1) := by decide +kernel
theorem dX2_takenBackAt_16 : decode cX2_takenBackAt 16 = .ok (.getfield 21, 3) := by decide +kernel
theorem dX2_takenBackAt_19 : decode cX2_takenBackAt 19 = .ok (.iload 4, 2) := by decide +kernel
theorem dX2_takenBackAt_21 : decode cX2_takenBackAt 21 = .ok (.iload_n 1, 1) := by decide +kernel
theorem dX2_takenBackAt_22 : decode cX2_takenBackAt 22 = .ok (.invokestatic 43, 3) := by decide +kernel
theorem dX2_takenBackAt_25 : decode cX2_takenBackAt 25 = .ok (.iaload, 1) := by decide +kernel
theorem dX2_takenBackAt_26 : decode cX2_takenBackAt 26 = .ok (.if_icmp .lt 10, 3) := by decide +kernel
theorem dX2_takenBackAt_29 : decode cX2_takenBackAt 29 = .ok (.iload_n 3, 1) := by decide +kernel
theorem dX2_takenBackAt_30 : decode cX2_takenBackAt 30 = .ok (.iconst 1, 1) := by decide +kernel
theorem dX2_takenBackAt_31 : decode cX2_takenBackAt 31 = .ok (.iload 4, 2) := by decide +kernel
theorem dX2_takenBackAt_33 : decode cX2_takenBackAt 33 = .ok (.ishl, 1) := by decide +kernel
theorem dX2_takenBackAt_34 : decode cX2_takenBackAt 34 = .ok (.ior, 1) := by decide +kernel
theorem dX2_takenBackAt_35 : decode cX2_takenBackAt 35 = .ok (.istore_n 3, 1) := by decide +kernel
theorem dX2_takenBackAt_36 : decode cX2_takenBackAt 36 = .ok (.iinc 4 1, 3) := by decide +kernel
theorem dX2_takenBackAt_39 : decode cX2_takenBackAt 39 = .ok (.goto (-34), 3) := by decide +kernel
theorem dX2_takenBackAt_42 : decode cX2_takenBackAt 42 = .ok (.iload_n 3, 1) := by decide +kernel
theorem dX2_takenBackAt_43 : decode cX2_takenBackAt 43 = .ok (.ireturn, 1) := by decide +kernel
set_option maxHeartbeats 4000000 in
set_option maxRecDepth 100000 in
theorem B_X9_isMatter {l : Launch} {e : hv_Ev}  (x1 : Int32) {σ : hv_S} {Φ : Int32 → hv_S → Prop} (h : ((x1 < 0 → Φ 0 (σ)) ∧ (¬ x1 < 0 → ((3 ≤ x1 → Φ 0 (σ)) ∧ (¬ 3 ≤ x1 → Φ 1 (σ)))))) : hv_CI l (hv_e1 e) 0 m_X9_isMatter [.int x1] σ Φ := by
  refine hv_entI (by decide) (Nat.le_of_ble_eq_true rfl) ?_
  show hv_TW l (hv_e1 e) (hv_rm 0) 0 0 m_X9_isMatter hv_no (hv_ZI (hv_e1 e) Φ) 0 [(0, .int x1)] [] σ
  refine T_iload_n dX9_isMatter_0 rfl 0 rfl ?_
  refine T_if_lt (tgt := 13) dX9_isMatter_1 (by decide) (fun c1 => ?_) (fun c1 => ?_)
  · refine T_iconst (v := 0) dX9_isMatter_13 (by decide) ?_
    exact T_zret dX9_isMatter_14 rfl (by decide) (h.1 c1)
  · refine T_iload_n dX9_isMatter_4 rfl 0 rfl ?_
    refine T_iconst (v := 3) dX9_isMatter_5 (by decide) ?_
    refine T_icmp_ge (tgt := 13) dX9_isMatter_6 (by decide) (fun c2 => ?_) (fun c2 => ?_)
    · refine T_iconst (v := 0) dX9_isMatter_13 (by decide) ?_
      exact T_zret dX9_isMatter_14 rfl (by decide) ((h.2 c1).1 c2)
    · refine T_iconst (v := 1) dX9_isMatter_9 (by decide) ?_
      refine T_goto (tgt := 14) dX9_isMatter_10 (by decide) ?_
      exact T_zret dX9_isMatter_14 rfl (by decide) ((h.2 c1).2 c2)

set_option maxHeartbeats 4000000 in
set_option maxRecDepth 100000 in
theorem B_X9_isPart {l : Launch} {e : hv_Ev}  (x1 : Int32) {σ : hv_S} {Φ : Int32 → hv_S → Prop} (h : ((x1 = 0 → Φ 1 (σ)) ∧ (¬ x1 = 0 → ((x1 ≠ 1 → Φ 0 (σ)) ∧ (x1 = 1 → Φ 1 (σ)))))) : hv_CI l (hv_e1 e) 0 m_X9_isPart [.int x1] σ Φ := by
  refine hv_entI (by decide) (Nat.le_of_ble_eq_true rfl) ?_
  show hv_TW l (hv_e1 e) (hv_rm 0) 0 0 m_X9_isPart hv_no (hv_ZI (hv_e1 e) Φ) 0 [(0, .int x1)] [] σ
  refine T_iload_n dX9_isPart_0 rfl 0 rfl ?_
  refine T_if_eq (tgt := 9) dX9_isPart_1 (by decide) (fun c1 => ?_) (fun c1 => ?_)
  · refine T_iconst (v := 1) dX9_isPart_9 (by decide) ?_
    refine T_goto (tgt := 14) dX9_isPart_10 (by decide) ?_
    exact T_zret dX9_isPart_14 rfl (by decide) (h.1 c1)
  · refine T_iload_n dX9_isPart_4 rfl 0 rfl ?_
    refine T_iconst (v := 1) dX9_isPart_5 (by decide) ?_
    refine T_icmp_ne (tgt := 13) dX9_isPart_6 (by decide) (fun c2 => ?_) (fun c2 => ?_)
    · refine T_iconst (v := 0) dX9_isPart_13 (by decide) ?_
      exact T_zret dX9_isPart_14 rfl (by decide) ((h.2 c1).1 c2)
    · refine T_iconst (v := 1) dX9_isPart_9 (by decide) ?_
      refine T_goto (tgt := 14) dX9_isPart_10 (by decide) ?_
      exact T_zret dX9_isPart_14 rfl (by decide) ((h.2 c1).2 c2)

set_option maxHeartbeats 4000000 in
set_option maxRecDepth 100000 in
theorem B_X9_cell {l : Launch} {e : hv_Ev}  (x1 : Int32) (x2 : Int32) {σ : hv_S} {Φ : Int32 → hv_S → Prop} (h : Φ ((x2 * 8) + x1) (σ)) : hv_CI l (hv_e1 e) 0 m_X9_cell [.int x1, .int x2] σ Φ := by
  refine hv_entI (by decide) (Nat.le_of_ble_eq_true rfl) ?_
  show hv_TW l (hv_e1 e) (hv_rm 0) 0 0 m_X9_cell hv_no (hv_ZI (hv_e1 e) Φ) 0 [(0, .int x1), (1, .int x2)] [] σ
  refine T_iload_n dX9_cell_0 rfl 1 rfl ?_
  refine T_bipush (v := 8) dX9_cell_1 (by decide) ?_
  refine T_imul dX9_cell_3 ?_
  refine T_iload_n dX9_cell_4 rfl 0 rfl ?_
  refine T_iadd dX9_cell_5 ?_
  exact T_iret dX9_cell_6 rfl h

set_option maxHeartbeats 4000000 in
set_option maxRecDepth 100000 in
theorem B_X4_clear {l : Launch} {e : hv_Ev} (r : Nat) (hr : hv_isR r)  {σ : hv_S} {Φ : hv_S → Prop} (h : Φ (hv_ui (hv_ui (hv_ui (hv_ui (hv_ui (σ) r 1 0) r 2 999) r 3 1) r 4 2) r 5 0)) : hv_CV l (hv_e1 e) 0 m_X4_clear [.ref r] σ Φ := by
  refine hv_entV (by decide) (Nat.le_of_ble_eq_true rfl) ?_
  show hv_TW l (hv_e1 e) (hv_rm 0) 0 0 m_X4_clear hv_no (hv_ZV (hv_e1 e) Φ) 0 [(0, .ref r)] [] σ
  refine T_aload_n dX4_clear_0 rfl 0 rfl ?_
  refine T_iconst (v := 0) dX4_clear_1 (by decide) ?_
  refine T_puti dX4_clear_2 fl_X4_18 pf_X4_1 (hv_isRp hr) (hv_isRs hr) rfl ?_
  refine T_aload_n dX4_clear_5 rfl 0 rfl ?_
  refine T_sipush (v := 999) dX4_clear_6 (by decide) ?_
  refine T_puti dX4_clear_9 fl_X4_22 pf_X4_2 (hv_isRp hr) (hv_isRs hr) rfl ?_
  refine T_aload_n dX4_clear_12 rfl 0 rfl ?_
  refine T_iconst (v := 1) dX4_clear_13 (by decide) ?_
  refine T_puti dX4_clear_14 fl_X4_25 pf_X4_3 (hv_isRp hr) (hv_isRs hr) rfl ?_
  refine T_aload_n dX4_clear_17 rfl 0 rfl ?_
  refine T_iconst (v := 2) dX4_clear_18 (by decide) ?_
  refine T_puti dX4_clear_19 fl_X4_28 pf_X4_4 (hv_isRp hr) (hv_isRs hr) rfl ?_
  refine T_aload_n dX4_clear_22 rfl 0 rfl ?_
  refine T_iconst (v := 0) dX4_clear_23 (by decide) ?_
  refine T_putz dX4_clear_24 fl_X4_31 pf_X4_5 (hv_isRp hr) (hv_isRs hr) rfl (by decide) ?_
  exact T_vret dX4_clear_27 rfl h

set_option maxHeartbeats 4000000 in
set_option maxRecDepth 100000 in
theorem B_X4_add {l : Launch} {e : hv_Ev} (r : Nat) (hr : hv_isR r) (x1 : Int32) {σ : hv_S} {Φ : hv_S → Prop} (h : ((100 ≤ (σ.1 r 1) → Φ (σ)) ∧ (¬ 100 ≤ (σ.1 r 1) → (vp_in (σ.1 r 1) 100 ∧ Φ (hv_ui (hv_ui (σ) (r + 1) ((σ.1 r 1).toNatClampNeg) x1) r 1 (((hv_ui (σ) (r + 1) ((σ.1 r 1).toNatClampNeg) x1).1 r 1) + 1)))))) : hv_CV l (hv_e1 e) 0 m_X4_add [.ref r, .int x1] σ Φ := by
  refine hv_entV (by decide) (Nat.le_of_ble_eq_true rfl) ?_
  show hv_TW l (hv_e1 e) (hv_rm 0) 0 0 m_X4_add hv_no (hv_ZV (hv_e1 e) Φ) 0 [(0, .ref r), (1, .int x1)] [] σ
  refine T_aload_n dX4_add_0 rfl 0 rfl ?_
  refine T_get (v := .int (σ.1 r 1)) dX4_add_1 fl_X4_18 (hv_isRp hr) (hv_isRs hr) rfl rfl ?_
  refine T_aload_n dX4_add_4 rfl 0 rfl ?_
  refine T_get (v := .ref (r + 1)) dX4_add_5 fl_X4_9 (hv_isRp hr) (hv_isRs hr) rfl rfl ?_
  refine T_alen (v := 100) dX4_add_8 (hv_isRq hr) (hv_isRt hr) (by decide) (by decide) ?_
  refine T_icmp_ge (tgt := 32) dX4_add_9 (by decide) (fun c1 => ?_) (fun c1 => ?_)
  · exact T_vret dX4_add_32 rfl (h.1 c1)
  · refine T_aload_n dX4_add_12 rfl 0 rfl ?_
    refine T_get (v := .ref (r + 1)) dX4_add_13 fl_X4_9 (hv_isRp hr) (hv_isRs hr) rfl rfl ?_
    refine T_aload_n dX4_add_16 rfl 0 rfl ?_
    refine T_get (v := .int (σ.1 r 1)) dX4_add_17 fl_X4_18 (hv_isRp hr) (hv_isRs hr) rfl rfl ?_
    refine T_iload_n dX4_add_20 rfl 1 rfl ?_
    refine T_iast dX4_add_21 (hv_isRq hr) (hv_isRt hr) (h.2 c1).1 ?_
    refine T_aload_n dX4_add_22 rfl 0 rfl ?_
    refine T_dup dX4_add_23 rfl ?_
    refine T_get (v := .int ((hv_ui (σ) (r + 1) ((σ.1 r 1).toNatClampNeg) x1).1 r 1)) dX4_add_24 fl_X4_18 (hv_isRp hr) (hv_isRs hr) rfl rfl ?_
    refine T_iconst (v := 1) dX4_add_27 (by decide) ?_
    refine T_iadd dX4_add_28 ?_
    refine T_puti dX4_add_29 fl_X4_18 pf_X4_1 (hv_isRp hr) (hv_isRs hr) rfl ?_
    exact T_vret dX4_add_32 rfl ((h.2 c1).2)

set_option maxHeartbeats 4000000 in
set_option maxRecDepth 100000 in
theorem B_X4_test {l : Launch} {e : hv_Ev}  (x1 : Int32) (x2 : Int32) (x3 : Int32) {σ : hv_S} {Φ : Int32 → hv_S → Prop} (h : Φ ((((x1 * 3) + x2) * 1000) + x3) (σ)) : hv_CI l (hv_e1 e) 0 m_X4_test [.int x1, .int x2, .int x3] σ Φ := by
  refine hv_entI (by decide) (Nat.le_of_ble_eq_true rfl) ?_
  show hv_TW l (hv_e1 e) (hv_rm 0) 0 0 m_X4_test hv_no (hv_ZI (hv_e1 e) Φ) 0 [(0, .int x1), (1, .int x2), (2, .int x3)] [] σ
  refine T_iload_n dX4_test_0 rfl 0 rfl ?_
  refine T_iconst (v := 3) dX4_test_1 (by decide) ?_
  refine T_imul dX4_test_2 ?_
  refine T_iload_n dX4_test_3 rfl 1 rfl ?_
  refine T_iadd dX4_test_4 ?_
  refine T_sipush (v := 1000) dX4_test_5 (by decide) ?_
  refine T_imul dX4_test_8 ?_
  refine T_iload_n dX4_test_9 rfl 2 rfl ?_
  refine T_iadd dX4_test_10 ?_
  exact T_iret dX4_test_11 rfl h

set_option maxHeartbeats 4000000 in
set_option maxRecDepth 100000 in
theorem B_X4_isTrue {l : Launch} {e : hv_Ev}  (x1 : Int32) {σ : hv_S} {Φ : Int32 → hv_S → Prop} (h : ((((x1 / 1000) / 3) < 5 → ((((x1 / 1000) - (x1 / 1000) / 3 * 3) = 0 → (vp_in ((x1 / 1000) / 3) 5 ∧ (((x1 - x1 / 1000 * 1000) ≤ (σ.1 17 (((x1 / 1000) / 3).toNatClampNeg)) → Φ 0 (σ)) ∧ (¬ (x1 - x1 / 1000 * 1000) ≤ (σ.1 17 (((x1 / 1000) / 3).toNatClampNeg)) → Φ 1 (σ))))) ∧ (((x1 / 1000) - (x1 / 1000) / 3 * 3) = 1 → (vp_in ((x1 / 1000) / 3) 5 ∧ (((σ.1 17 (((x1 / 1000) / 3).toNatClampNeg)) ≠ (x1 - x1 / 1000 * 1000) → Φ 0 (σ)) ∧ ((σ.1 17 (((x1 / 1000) / 3).toNatClampNeg)) = (x1 - x1 / 1000 * 1000) → Φ 1 (σ))))) ∧ (¬ ((x1 / 1000) - (x1 / 1000) / 3 * 3) = 0 → ¬ ((x1 / 1000) - (x1 / 1000) / 3 * 3) = 1 → (vp_in ((x1 / 1000) / 3) 5 ∧ (((σ.1 17 (((x1 / 1000) / 3).toNatClampNeg)) ≤ (x1 - x1 / 1000 * 1000) → Φ 0 (σ)) ∧ (¬ (σ.1 17 (((x1 / 1000) / 3).toNatClampNeg)) ≤ (x1 - x1 / 1000 * 1000) → Φ 1 (σ))))))) ∧ (¬ ((x1 / 1000) / 3) < 5 → Φ 0 (σ)))) : hv_CI l (hv_e1 e) 0 m_X4_isTrue [.int x1, .ref 17] σ Φ := by
  refine hv_entI (by decide) (Nat.le_of_ble_eq_true rfl) ?_
  show hv_TW l (hv_e1 e) (hv_rm 0) 0 0 m_X4_isTrue hv_no (hv_ZI (hv_e1 e) Φ) 0 [(0, .int x1), (1, .ref 17)] [] σ
  refine T_iload_n dX4_isTrue_0 rfl 0 rfl ?_
  refine T_sipush (v := 1000) dX4_isTrue_1 (by decide) ?_
  refine T_irem dX4_isTrue_4 (by decide) ?_
  refine T_istore_n dX4_isTrue_5 rfl (by decide) rfl ?_
  refine T_iload_n dX4_isTrue_6 rfl 1 rfl ?_
  refine T_sipush (v := 1000) dX4_isTrue_7 (by decide) ?_
  refine T_idiv dX4_isTrue_10 (by decide) ?_
  refine T_iconst (v := 3) dX4_isTrue_11 (by decide) ?_
  refine T_irem dX4_isTrue_12 (by decide) ?_
  refine T_istore_n dX4_isTrue_13 rfl (by decide) rfl ?_
  refine T_iload_n dX4_isTrue_14 rfl 2 rfl ?_
  refine T_sipush (v := 1000) dX4_isTrue_15 (by decide) ?_
  refine T_idiv dX4_isTrue_18 (by decide) ?_
  refine T_iconst (v := 3) dX4_isTrue_19 (by decide) ?_
  refine T_idiv dX4_isTrue_20 (by decide) ?_
  refine T_istore dX4_isTrue_21 (by decide) rfl ?_
  refine T_iload dX4_isTrue_23 0 rfl ?_
  refine T_aload_n dX4_isTrue_25 rfl 4 rfl ?_
  refine T_alen (v := 5) dX4_isTrue_26 hp_17 hs_17 (by decide) (by decide) ?_
  refine T_icmp_lt (tgt := 32) dX4_isTrue_27 (by decide) (fun c1 => ?_) (fun c1 => ?_)
  · refine T_iload_n dX4_isTrue_32 rfl 1 rfl ?_
    by_cases c2 : ((x1 / 1000) - (x1 / 1000) / 3 * 3) = 0
    · refine T_lookup (off := 27) (tgt := 60) dX4_isTrue_33 (by decide) (by rw [c2]; decide) (by decide) ?_
      refine T_aload_n dX4_isTrue_60 rfl 4 rfl ?_
      refine T_iload dX4_isTrue_61 0 rfl ?_
      refine T_iald dX4_isTrue_63 hp_17 hs_17 ((h.1 c1).1 c2).1 ?_
      refine T_iload_n dX4_isTrue_64 rfl 2 rfl ?_
      refine T_icmp_ge (tgt := 72) dX4_isTrue_65 (by decide) (fun c3 => ?_) (fun c3 => ?_)
      · refine T_iconst (v := 0) dX4_isTrue_72 (by decide) ?_
        exact T_zret dX4_isTrue_73 rfl (by decide) (((h.1 c1).1 c2).2.1 c3)
      · refine T_iconst (v := 1) dX4_isTrue_68 (by decide) ?_
        refine T_goto (tgt := 73) dX4_isTrue_69 (by decide) ?_
        exact T_zret dX4_isTrue_73 rfl (by decide) (((h.1 c1).1 c2).2.2 c3)
    · skip
      by_cases c4 : ((x1 / 1000) - (x1 / 1000) / 3 * 3) = 1
      · refine T_lookup (off := 41) (tgt := 74) dX4_isTrue_33 (by decide) (by rw [c4]; decide) (by decide) ?_
        refine T_aload_n dX4_isTrue_74 rfl 4 rfl ?_
        refine T_iload dX4_isTrue_75 0 rfl ?_
        refine T_iald dX4_isTrue_77 hp_17 hs_17 ((h.1 c1).2.1 c4).1 ?_
        refine T_iload_n dX4_isTrue_78 rfl 2 rfl ?_
        refine T_icmp_ne (tgt := 86) dX4_isTrue_79 (by decide) (fun c5 => ?_) (fun c5 => ?_)
        · refine T_iconst (v := 0) dX4_isTrue_86 (by decide) ?_
          exact T_zret dX4_isTrue_87 rfl (by decide) (((h.1 c1).2.1 c4).2.1 c5)
        · refine T_iconst (v := 1) dX4_isTrue_82 (by decide) ?_
          refine T_goto (tgt := 87) dX4_isTrue_83 (by decide) ?_
          exact T_zret dX4_isTrue_87 rfl (by decide) (((h.1 c1).2.1 c4).2.2 c5)
      · skip
        refine T_lookup (off := 55) (tgt := 88) dX4_isTrue_33 (by decide) (by show Op.lookupswitch.offset [(0, 27), (1, 41)] _ _ = _; rw [lv_osw c2 (a := 0) (by decide), lv_osw c4 (a := 1) (by decide)]; rfl) (by decide) ?_
        refine T_aload_n dX4_isTrue_88 rfl 4 rfl ?_
        refine T_iload dX4_isTrue_89 0 rfl ?_
        refine T_iald dX4_isTrue_91 hp_17 hs_17 ((h.1 c1).2.2 c2 c4).1 ?_
        refine T_iload_n dX4_isTrue_92 rfl 2 rfl ?_
        refine T_icmp_le (tgt := 100) dX4_isTrue_93 (by decide) (fun c6 => ?_) (fun c6 => ?_)
        · refine T_iconst (v := 0) dX4_isTrue_100 (by decide) ?_
          exact T_zret dX4_isTrue_101 rfl (by decide) (((h.1 c1).2.2 c2 c4).2.1 c6)
        · refine T_iconst (v := 1) dX4_isTrue_96 (by decide) ?_
          refine T_goto (tgt := 101) dX4_isTrue_97 (by decide) ?_
          exact T_zret dX4_isTrue_101 rfl (by decide) (((h.1 c1).2.2 c2 c4).2.2 c6)
  · refine T_iconst (v := 0) dX4_isTrue_30 (by decide) ?_
    exact T_zret dX4_isTrue_31 rfl (by decide) (h.2 c1)

def L_X4_forbid_4 (l : Launch) (e : hv_Ev) (r : Nat) (Φ : Int32 → hv_S → Prop) (x2 : Int32) (x3 : Int32) (σ : hv_S) : Prop := hv_TW l (hv_e1 e) (hv_rm 1) 0 0 m_X4_forbid hv_no (hv_ZI (hv_e1 e) Φ) 4 [(0, .ref r), (1, .ref 17), (2, .int x2), (3, .int x3)] [] σ
set_option maxHeartbeats 4000000 in
set_option maxRecDepth 100000 in
theorem B_X4_forbid_4 {l : Launch} {e : hv_Ev} (r : Nat) (hr : hv_isR r) (x2 : Int32) (x3 : Int32) {σ : hv_S} {Φ : Int32 → hv_S → Prop} (h : (((σ.1 r 1) ≤ x3 → ((x2 = 0 → Φ 0 (σ)) ∧ (¬ x2 = 0 → Φ 1 (σ)))) ∧ (¬ (σ.1 r 1) ≤ x3 → (vp_in x3 100 ∧ (((σ.1 (r + 1) x3.toNatClampNeg) < 0 → (((σ.1 (r + 1) x3.toNatClampNeg) ≠ (-1) → (∀ z1 : Int32, z1 = (x2.toUInt32 >>> ((1 : Int32).toUInt32 &&& Int32.toUInt32 31)).toInt32 → (((σ.1 (r + 1) x3.toNatClampNeg) ≠ (-3) → L_X4_forbid_4 l e r Φ (z1 &&& ((x2 &&& 1) ||| (-2))) (x3 + 1) (σ)) ∧ ((σ.1 (r + 1) x3.toNatClampNeg) = (-3) → L_X4_forbid_4 l e r Φ (z1 ||| (x2 &&& 1)) (x3 + 1) (σ))))) ∧ ((σ.1 (r + 1) x3.toNatClampNeg) = (-1) → L_X4_forbid_4 l e r Φ (x2 ^^^ 1) (x3 + 1) (σ)))) ∧ (¬ (σ.1 (r + 1) x3.toNatClampNeg) < 0 → hv_CI l (hv_e1 e) 0 m_X4_isTrue [.int (σ.1 (r + 1) x3.toNatClampNeg), .ref 17] (σ) (fun v3 s2 => ((v3 = 0 → L_X4_forbid_4 l e r Φ ((x2 <<< ((1 : Int32) &&& 31)) ||| 0) (x3 + 1) s2) ∧ (¬ v3 = 0 → L_X4_forbid_4 l e r Φ ((x2 <<< ((1 : Int32) &&& 31)) ||| 1) (x3 + 1) s2))))))))) : L_X4_forbid_4 l e r Φ x2 x3 σ := by
  show hv_TW l (hv_e1 e) (hv_rm 1) 0 0 m_X4_forbid hv_no (hv_ZI (hv_e1 e) Φ) 4 [(0, .ref r), (1, .ref 17), (2, .int x2), (3, .int x3)] [] σ
  refine T_iload_n dX4_forbid_4 rfl 3 rfl ?_
  refine T_aload_n dX4_forbid_5 rfl 0 rfl ?_
  refine T_get (v := .int (σ.1 r 1)) dX4_forbid_6 fl_X4_18 (hv_isRp hr) (hv_isRs hr) rfl rfl ?_
  refine T_icmp_ge (tgt := 97) dX4_forbid_9 (by decide) (fun c5 => ?_) (fun c5 => ?_)
  · refine T_iload_n dX4_forbid_97 rfl 2 rfl ?_
    refine T_if_eq (tgt := 105) dX4_forbid_98 (by decide) (fun c6 => ?_) (fun c6 => ?_)
    · refine T_iconst (v := 0) dX4_forbid_105 (by decide) ?_
      exact T_zret dX4_forbid_106 rfl (by decide) ((h.1 c5).1 c6)
    · refine T_iconst (v := 1) dX4_forbid_101 (by decide) ?_
      refine T_goto (tgt := 106) dX4_forbid_102 (by decide) ?_
      exact T_zret dX4_forbid_106 rfl (by decide) ((h.1 c5).2 c6)
  · refine T_aload_n dX4_forbid_12 rfl 0 rfl ?_
    refine T_get (v := .ref (r + 1)) dX4_forbid_13 fl_X4_9 (hv_isRp hr) (hv_isRs hr) rfl rfl ?_
    refine T_iload_n dX4_forbid_16 rfl 3 rfl ?_
    refine T_iald dX4_forbid_17 (hv_isRq hr) (hv_isRt hr) (h.2 c5).1 ?_
    refine T_istore dX4_forbid_18 (by decide) rfl ?_
    refine T_iload dX4_forbid_20 0 rfl ?_
    refine T_if_lt (tgt := 47) dX4_forbid_22 (by decide) (fun c7 => ?_) (fun c7 => ?_)
    · refine T_iload dX4_forbid_47 0 rfl ?_
      refine T_iconst (v := (-1)) dX4_forbid_49 (by decide) ?_
      refine T_icmp_ne (tgt := 60) dX4_forbid_50 (by decide) (fun c8 => ?_) (fun c8 => ?_)
      · refine T_iload_n dX4_forbid_60 rfl 3 rfl ?_
        refine T_iconst (v := 1) dX4_forbid_61 (by decide) ?_
        refine T_iand dX4_forbid_62 ?_
        refine T_istore dX4_forbid_63 (by decide) rfl ?_
        refine T_iload_n dX4_forbid_65 rfl 4 rfl ?_
        refine T_iconst (v := 1) dX4_forbid_66 (by decide) ?_
        refine T_iushr dX4_forbid_67 ?_
        refine T_topi (fun z1 ez1 => ?_)
        refine T_istore_n dX4_forbid_68 rfl (by decide) rfl ?_
        refine T_iload dX4_forbid_69 2 rfl ?_
        refine T_bipush (v := (-3)) dX4_forbid_71 (by decide) ?_
        refine T_icmp_ne (tgt := 83) dX4_forbid_73 (by decide) (fun c9 => ?_) (fun c9 => ?_)
        · refine T_iload_n dX4_forbid_83 rfl 0 rfl ?_
          refine T_iload dX4_forbid_84 1 rfl ?_
          refine T_bipush (v := (-2)) dX4_forbid_86 (by decide) ?_
          refine T_ior dX4_forbid_88 ?_
          refine T_iand dX4_forbid_89 ?_
          refine T_istore_n dX4_forbid_90 rfl (by decide) rfl ?_
          refine T_iinc (v := (x3 + 1)) dX4_forbid_91 5 rfl rfl (by decide) rfl ?_
          refine T_goto (tgt := 4) dX4_forbid_94 (by decide) ?_
          exact T_sub [4, 5, 1, 0] rfl (((((h.2 c5).2.1 c7).1 c8) z1 ez1).1 c9)
        · refine T_iload_n dX4_forbid_76 rfl 0 rfl ?_
          refine T_iload dX4_forbid_77 1 rfl ?_
          refine T_ior dX4_forbid_79 ?_
          refine T_goto (tgt := 90) dX4_forbid_80 (by decide) ?_
          refine T_istore_n dX4_forbid_90 rfl (by decide) rfl ?_
          refine T_iinc (v := (x3 + 1)) dX4_forbid_91 5 rfl rfl (by decide) rfl ?_
          refine T_goto (tgt := 4) dX4_forbid_94 (by decide) ?_
          exact T_sub [4, 5, 1, 0] rfl (((((h.2 c5).2.1 c7).1 c8) z1 ez1).2 c9)
      · refine T_iload_n dX4_forbid_53 rfl 3 rfl ?_
        refine T_iconst (v := 1) dX4_forbid_54 (by decide) ?_
        refine T_ixor dX4_forbid_55 ?_
        refine T_istore_n dX4_forbid_56 rfl (by decide) rfl ?_
        refine T_goto (tgt := 91) dX4_forbid_57 (by decide) ?_
        refine T_iinc (v := (x3 + 1)) dX4_forbid_91 4 rfl rfl (by decide) rfl ?_
        refine T_goto (tgt := 4) dX4_forbid_94 (by decide) ?_
        exact T_sub [3, 4, 1, 0] rfl (((h.2 c5).2.1 c7).2 c8)
    · refine T_iload_n dX4_forbid_25 rfl 3 rfl ?_
      refine T_iconst (v := 1) dX4_forbid_26 (by decide) ?_
      refine T_ishl dX4_forbid_27 ?_
      refine T_iload dX4_forbid_28 0 rfl ?_
      refine T_aload_n dX4_forbid_30 rfl 2 rfl ?_
      refine T_SI (As := [.int (σ.1 (r + 1) x3.toNatClampNeg), .ref 17]) dX4_forbid_31 ms_X4_35 rfl (Nat.le_of_ble_eq_true rfl) (hv_ok1 rfl) rfl ((h.2 c5).2.2 c7) (fun v3 s2 h4 => ?_)
      refine T_if_eq (tgt := 41) dX4_forbid_34 (by decide) (fun c10 => ?_) (fun c10 => ?_)
      · refine T_iconst (v := 0) dX4_forbid_41 (by decide) ?_
        refine T_ior dX4_forbid_42 ?_
        refine T_istore_n dX4_forbid_43 rfl (by decide) rfl ?_
        refine T_goto (tgt := 91) dX4_forbid_44 (by decide) ?_
        refine T_iinc (v := (x3 + 1)) dX4_forbid_91 4 rfl rfl (by decide) rfl ?_
        refine T_goto (tgt := 4) dX4_forbid_94 (by decide) ?_
        exact T_sub [3, 4, 1, 0] rfl (h4.1 c10)
      · refine T_iconst (v := 1) dX4_forbid_37 (by decide) ?_
        refine T_goto (tgt := 42) dX4_forbid_38 (by decide) ?_
        refine T_ior dX4_forbid_42 ?_
        refine T_istore_n dX4_forbid_43 rfl (by decide) rfl ?_
        refine T_goto (tgt := 91) dX4_forbid_44 (by decide) ?_
        refine T_iinc (v := (x3 + 1)) dX4_forbid_91 4 rfl rfl (by decide) rfl ?_
        refine T_goto (tgt := 4) dX4_forbid_94 (by decide) ?_
        exact T_sub [3, 4, 1, 0] rfl (h4.2 c10)
set_option maxHeartbeats 4000000 in
set_option maxRecDepth 100000 in
theorem B_X4_forbid {l : Launch} {e : hv_Ev} (r : Nat) (hr : hv_isR r)  {σ : hv_S} {Φ : Int32 → hv_S → Prop} (h : L_X4_forbid_4 l e r Φ 0 0 (σ)) : hv_CI l (hv_e1 e) 1 m_X4_forbid [.ref r, .ref 17] σ Φ := by
  refine hv_entI (by decide) (Nat.le_of_ble_eq_true rfl) ?_
  show hv_TW l (hv_e1 e) (hv_rm 1) 0 0 m_X4_forbid hv_no (hv_ZI (hv_e1 e) Φ) 0 [(0, .ref r), (1, .ref 17)] [] σ
  refine T_iconst (v := 0) dX4_forbid_0 (by decide) ?_
  refine T_istore_n dX4_forbid_1 rfl (by decide) rfl ?_
  refine T_iconst (v := 0) dX4_forbid_2 (by decide) ?_
  refine T_istore_n dX4_forbid_3 rfl (by decide) rfl ?_
  exact T_sub [2, 3, 1, 0] rfl h

set_option maxHeartbeats 4000000 in
set_option maxRecDepth 100000 in
theorem B_X2_sits {l : Launch} {e : hv_Ev}  (x1 : Int32) {σ : hv_S} {Φ : Int32 → hv_S → Prop} (h : ((x1 < 0 → Φ 0 (σ)) ∧ (¬ x1 < 0 → (((σ.1 1 7) ≤ x1 → Φ 0 (σ)) ∧ (¬ (σ.1 1 7) ≤ x1 → Φ 1 (σ)))))) : hv_CI l (hv_e1 e) 0 m_X2_sits [.ref 1, .int x1] σ Φ := by
  refine hv_entI (by decide) (Nat.le_of_ble_eq_true rfl) ?_
  show hv_TW l (hv_e1 e) (hv_rm 0) 0 0 m_X2_sits hv_no (hv_ZI (hv_e1 e) Φ) 0 [(0, .ref 1), (1, .int x1)] [] σ
  refine T_iload_n dX2_sits_0 rfl 1 rfl ?_
  refine T_if_lt (tgt := 16) dX2_sits_1 (by decide) (fun c1 => ?_) (fun c1 => ?_)
  · refine T_iconst (v := 0) dX2_sits_16 (by decide) ?_
    exact T_zret dX2_sits_17 rfl (by decide) (h.1 c1)
  · refine T_iload_n dX2_sits_4 rfl 1 rfl ?_
    refine T_aload_n dX2_sits_5 rfl 0 rfl ?_
    refine T_get (v := .int (σ.1 1 7)) dX2_sits_6 fl_X2_39 hp_1 hs_1 rfl rfl ?_
    refine T_icmp_ge (tgt := 16) dX2_sits_9 (by decide) (fun c2 => ?_) (fun c2 => ?_)
    · refine T_iconst (v := 0) dX2_sits_16 (by decide) ?_
      exact T_zret dX2_sits_17 rfl (by decide) ((h.2 c1).1 c2)
    · refine T_iconst (v := 1) dX2_sits_12 (by decide) ?_
      refine T_goto (tgt := 17) dX2_sits_13 (by decide) ?_
      exact T_zret dX2_sits_17 rfl (by decide) ((h.2 c1).2 c2)

set_option maxHeartbeats 4000000 in
set_option maxRecDepth 100000 in
theorem B_X2_opinion {l : Launch} {e : hv_Ev}  (x1 : Int32) (x2 : Int32) {σ : hv_S} {Φ : Int32 → hv_S → Prop} (h : (vp_in x2 3 ∧ Φ (((σ.1 2 x2.toNatClampNeg) >>> (x1 &&& 31)) &&& 1) (σ))) : hv_CI l (hv_e1 e) 0 m_X2_opinion [.ref 1, .int x1, .int x2] σ Φ := by
  refine hv_entI (by decide) (Nat.le_of_ble_eq_true rfl) ?_
  show hv_TW l (hv_e1 e) (hv_rm 0) 0 0 m_X2_opinion hv_no (hv_ZI (hv_e1 e) Φ) 0 [(0, .ref 1), (1, .int x1), (2, .int x2)] [] σ
  refine T_aload_n dX2_opinion_0 rfl 0 rfl ?_
  refine T_get (v := .ref 2) dX2_opinion_1 fl_X2_9 hp_1 hs_1 rfl rfl ?_
  refine T_iload_n dX2_opinion_4 rfl 2 rfl ?_
  refine T_iald dX2_opinion_5 hp_2 hs_2 h.1 ?_
  refine T_iload_n dX2_opinion_6 rfl 1 rfl ?_
  refine T_ishr dX2_opinion_7 ?_
  refine T_iconst (v := 1) dX2_opinion_8 (by decide) ?_
  refine T_iand dX2_opinion_9 ?_
  exact T_iret dX2_opinion_10 rfl h.2

set_option maxHeartbeats 4000000 in
set_option maxRecDepth 100000 in
theorem B_X2_form {l : Launch} {e : hv_Ev}  (x1 : Int32) (x2 : Int32) (x3 : Int32) (x4 : Int32) {σ : hv_S} {Φ : hv_S → Prop} (h : ((x3 = 0 → (vp_in x2 3 ∧ (vp_in x2 3 ∧ hv_CI l (hv_e1 e) 0 m_X9_cell [.int x1, .int x2] (hv_ui (σ) 2 x2.toNatClampNeg ((σ.1 2 x2.toNatClampNeg) &&& (((1 : Int32) <<< (x1 &&& 31)) ^^^ (-1)))) (fun v2 s1 => (vp_in v2 24 ∧ Φ (hv_ui s1 3 v2.toNatClampNeg x4)))))) ∧ (¬ x3 = 0 → (vp_in x2 3 ∧ (vp_in x2 3 ∧ hv_CI l (hv_e1 e) 0 m_X9_cell [.int x1, .int x2] (hv_ui (σ) 2 x2.toNatClampNeg ((σ.1 2 x2.toNatClampNeg) ||| ((1 : Int32) <<< (x1 &&& 31)))) (fun v5 s4 => (vp_in v5 24 ∧ Φ (hv_ui s4 3 v5.toNatClampNeg x4)))))))) : hv_CV l (hv_e1 e) 1 m_X2_form [.ref 1, .int x1, .int x2, .int x3, .int x4] σ Φ := by
  refine hv_entV (by decide) (Nat.le_of_ble_eq_true rfl) ?_
  show hv_TW l (hv_e1 e) (hv_rm 1) 0 0 m_X2_form hv_no (hv_ZV (hv_e1 e) Φ) 0 [(0, .ref 1), (1, .int x1), (2, .int x2), (3, .int x3), (4, .int x4)] [] σ
  refine T_iconst (v := 1) dX2_form_0 (by decide) ?_
  refine T_iload_n dX2_form_1 rfl 1 rfl ?_
  refine T_ishl dX2_form_2 ?_
  refine T_istore dX2_form_3 (by decide) rfl ?_
  refine T_aload_n dX2_form_5 rfl 1 rfl ?_
  refine T_get (v := .ref 2) dX2_form_6 fl_X2_9 hp_1 hs_1 rfl rfl ?_
  refine T_iload_n dX2_form_9 rfl 3 rfl ?_
  refine T_iload_n dX2_form_10 rfl 4 rfl ?_
  refine T_if_eq (tgt := 26) dX2_form_11 (by decide) (fun c7 => ?_) (fun c7 => ?_)
  · refine T_aload_n dX2_form_26 rfl 1 rfl ?_
    refine T_get (v := .ref 2) dX2_form_27 fl_X2_9 hp_1 hs_1 rfl rfl ?_
    refine T_iload_n dX2_form_30 rfl 3 rfl ?_
    refine T_iald dX2_form_31 hp_2 hs_2 (h.1 c7).1 ?_
    refine T_iload dX2_form_32 0 rfl ?_
    refine T_iconst (v := (-1)) dX2_form_34 (by decide) ?_
    refine T_ixor dX2_form_35 ?_
    refine T_iand dX2_form_36 ?_
    refine T_iast dX2_form_37 hp_2 hs_2 (h.1 c7).2.1 ?_
    refine T_aload_n dX2_form_38 rfl 1 rfl ?_
    refine T_get (v := .ref 3) dX2_form_39 fl_X2_15 hp_1 hs_1 rfl rfl ?_
    refine T_iload_n dX2_form_42 rfl 2 rfl ?_
    refine T_iload_n dX2_form_43 rfl 3 rfl ?_
    refine T_SI (As := [.int x1, .int x2]) dX2_form_44 ms_X2_43 rfl (Nat.le_of_ble_eq_true rfl) (hv_ok1 rfl) rfl ((h.1 c7).2.2) (fun v2 s1 h3 => ?_)
    refine T_iload dX2_form_47 5 rfl ?_
    refine T_iast dX2_form_49 hp_3 hs_3 h3.1 ?_
    exact T_vret dX2_form_50 rfl h3.2
  · refine T_aload_n dX2_form_14 rfl 1 rfl ?_
    refine T_get (v := .ref 2) dX2_form_15 fl_X2_9 hp_1 hs_1 rfl rfl ?_
    refine T_iload_n dX2_form_18 rfl 3 rfl ?_
    refine T_iald dX2_form_19 hp_2 hs_2 (h.2 c7).1 ?_
    refine T_iload dX2_form_20 0 rfl ?_
    refine T_ior dX2_form_22 ?_
    refine T_goto (tgt := 37) dX2_form_23 (by decide) ?_
    refine T_iast dX2_form_37 hp_2 hs_2 (h.2 c7).2.1 ?_
    refine T_aload_n dX2_form_38 rfl 1 rfl ?_
    refine T_get (v := .ref 3) dX2_form_39 fl_X2_15 hp_1 hs_1 rfl rfl ?_
    refine T_iload_n dX2_form_42 rfl 2 rfl ?_
    refine T_iload_n dX2_form_43 rfl 3 rfl ?_
    refine T_SI (As := [.int x1, .int x2]) dX2_form_44 ms_X2_43 rfl (Nat.le_of_ble_eq_true rfl) (hv_ok1 rfl) rfl ((h.2 c7).2.2) (fun v5 s4 h6 => ?_)
    refine T_iload dX2_form_47 5 rfl ?_
    refine T_iast dX2_form_49 hp_3 hs_3 h6.1 ?_
    exact T_vret dX2_form_50 rfl h6.2

set_option maxHeartbeats 4000000 in
set_option maxRecDepth 100000 in
theorem B_X2_renew {l : Launch} {e : hv_Ev}  (x1 : Int32) (x2 : Int32) (x3 : Int32) (x4 : Int32) (x5 : Int32) {σ : hv_S} {Φ : Int32 → hv_S → Prop} (h : (vp_in x1 24 ∧ (vp_in x1 24 ∧ (vp_in x1 24 ∧ (vp_in x1 24 ∧ (vp_in x1 24 ∧ (vp_in x1 24 ∧ Φ (σ.1 4 x1.toNatClampNeg) (hv_ui (hv_ui (hv_ui (hv_ui (hv_ui (σ) 4 x1.toNatClampNeg x2) 5 x1.toNatClampNeg 100) 6 x1.toNatClampNeg x3) 7 x1.toNatClampNeg x4) 8 x1.toNatClampNeg x5)))))))) : hv_CI l (hv_e1 e) 0 m_X2_renew [.ref 1, .int x1, .int x2, .int x3, .int x4, .int x5] σ Φ := by
  refine hv_entI (by decide) (Nat.le_of_ble_eq_true rfl) ?_
  show hv_TW l (hv_e1 e) (hv_rm 0) 0 0 m_X2_renew hv_no (hv_ZI (hv_e1 e) Φ) 0 [(0, .ref 1), (1, .int x1), (2, .int x2), (3, .int x3), (4, .int x4), (5, .int x5)] [] σ
  refine T_aload_n dX2_renew_0 rfl 0 rfl ?_
  refine T_get (v := .ref 4) dX2_renew_1 fl_X2_18 hp_1 hs_1 rfl rfl ?_
  refine T_iload_n dX2_renew_4 rfl 1 rfl ?_
  refine T_iald dX2_renew_5 hp_4 hs_4 h.1 ?_
  refine T_istore dX2_renew_6 (by decide) rfl ?_
  refine T_aload_n dX2_renew_8 rfl 1 rfl ?_
  refine T_get (v := .ref 4) dX2_renew_9 fl_X2_18 hp_1 hs_1 rfl rfl ?_
  refine T_iload_n dX2_renew_12 rfl 2 rfl ?_
  refine T_iload_n dX2_renew_13 rfl 3 rfl ?_
  refine T_iast dX2_renew_14 hp_4 hs_4 h.2.1 ?_
  refine T_aload_n dX2_renew_15 rfl 1 rfl ?_
  refine T_get (v := .ref 5) dX2_renew_16 fl_X2_21 hp_1 hs_1 rfl rfl ?_
  refine T_iload_n dX2_renew_19 rfl 2 rfl ?_
  refine T_bipush (v := 100) dX2_renew_20 (by decide) ?_
  refine T_iast dX2_renew_22 hp_5 hs_5 h.2.2.1 ?_
  refine T_aload_n dX2_renew_23 rfl 1 rfl ?_
  refine T_get (v := .ref 6) dX2_renew_24 fl_X2_24 hp_1 hs_1 rfl rfl ?_
  refine T_iload_n dX2_renew_27 rfl 2 rfl ?_
  refine T_iload_n dX2_renew_28 rfl 4 rfl ?_
  refine T_iast dX2_renew_29 hp_6 hs_6 h.2.2.2.1 ?_
  refine T_aload_n dX2_renew_30 rfl 1 rfl ?_
  refine T_get (v := .ref 7) dX2_renew_31 fl_X2_27 hp_1 hs_1 rfl rfl ?_
  refine T_iload_n dX2_renew_34 rfl 2 rfl ?_
  refine T_iload dX2_renew_35 5 rfl ?_
  refine T_iast dX2_renew_37 hp_7 hs_7 h.2.2.2.2.1 ?_
  refine T_aload_n dX2_renew_38 rfl 1 rfl ?_
  refine T_get (v := .ref 8) dX2_renew_39 fl_X2_30 hp_1 hs_1 rfl rfl ?_
  refine T_iload_n dX2_renew_42 rfl 2 rfl ?_
  refine T_iload dX2_renew_43 6 rfl ?_
  refine T_iast dX2_renew_45 hp_8 hs_8 h.2.2.2.2.2.1 ?_
  refine T_iload dX2_renew_46 0 rfl ?_
  exact T_iret dX2_renew_48 rfl h.2.2.2.2.2.2

set_option maxHeartbeats 4000000 in
set_option maxRecDepth 100000 in
theorem B_X2_isSelf {l : Launch} {e : hv_Ev}  (x1 : Int32) (x2 : Int32) {σ : hv_S} {Φ : Int32 → hv_S → Prop} (h : (vp_in x1 24 ∧ (((σ.1 4 x1.toNatClampNeg) ≤ 1 → Φ 1 (σ)) ∧ (¬ (σ.1 4 x1.toNatClampNeg) ≤ 1 → (vp_in x1 24 ∧ ((x2 < (σ.1 5 x1.toNatClampNeg) → Φ 0 (σ)) ∧ (¬ x2 < (σ.1 5 x1.toNatClampNeg) → Φ 1 (σ)))))))) : hv_CI l (hv_e1 e) 0 m_X2_isSelf [.ref 1, .int x1, .int x2] σ Φ := by
  refine hv_entI (by decide) (Nat.le_of_ble_eq_true rfl) ?_
  show hv_TW l (hv_e1 e) (hv_rm 0) 0 0 m_X2_isSelf hv_no (hv_ZI (hv_e1 e) Φ) 0 [(0, .ref 1), (1, .int x1), (2, .int x2)] [] σ
  refine T_aload_n dX2_isSelf_0 rfl 0 rfl ?_
  refine T_get (v := .ref 4) dX2_isSelf_1 fl_X2_18 hp_1 hs_1 rfl rfl ?_
  refine T_iload_n dX2_isSelf_4 rfl 1 rfl ?_
  refine T_iald dX2_isSelf_5 hp_4 hs_4 h.1 ?_
  refine T_iconst (v := 1) dX2_isSelf_6 (by decide) ?_
  refine T_icmp_le (tgt := 20) dX2_isSelf_7 (by decide) (fun c1 => ?_) (fun c1 => ?_)
  · refine T_iconst (v := 1) dX2_isSelf_20 (by decide) ?_
    refine T_goto (tgt := 25) dX2_isSelf_21 (by decide) ?_
    exact T_zret dX2_isSelf_25 rfl (by decide) (h.2.1 c1)
  · refine T_iload_n dX2_isSelf_10 rfl 2 rfl ?_
    refine T_aload_n dX2_isSelf_11 rfl 0 rfl ?_
    refine T_get (v := .ref 5) dX2_isSelf_12 fl_X2_21 hp_1 hs_1 rfl rfl ?_
    refine T_iload_n dX2_isSelf_15 rfl 1 rfl ?_
    refine T_iald dX2_isSelf_16 hp_5 hs_5 (h.2.2 c1).1 ?_
    refine T_icmp_lt (tgt := 24) dX2_isSelf_17 (by decide) (fun c2 => ?_) (fun c2 => ?_)
    · refine T_iconst (v := 0) dX2_isSelf_24 (by decide) ?_
      exact T_zret dX2_isSelf_25 rfl (by decide) ((h.2.2 c1).2.1 c2)
    · refine T_iconst (v := 1) dX2_isSelf_20 (by decide) ?_
      refine T_goto (tgt := 25) dX2_isSelf_21 (by decide) ?_
      exact T_zret dX2_isSelf_25 rfl (by decide) ((h.2.2 c1).2.2 c2)

def L_X2_surestOf_9 (l : Launch) (e : hv_Ev)  (Φ : Int32 → hv_S → Prop) (x1 : Int32) (x2 : Int32) (x3 : Int32) (x4 : Int32) (x5 : Int32) (σ : hv_S) : Prop := hv_TW l (hv_e1 e) (hv_rm 1) 0 0 m_X2_surestOf hv_no (hv_ZI (hv_e1 e) Φ) 9 [(0, .ref 1), (1, .int x1), (2, .int x2), (3, .int x3), (4, .int x4), (5, .int x5)] [] σ
set_option maxHeartbeats 4000000 in
set_option maxRecDepth 100000 in
theorem B_X2_surestOf_9 {l : Launch} {e : hv_Ev}  (x1 : Int32) (x2 : Int32) (x3 : Int32) (x4 : Int32) (x5 : Int32) {σ : hv_S} {Φ : Int32 → hv_S → Prop} (h : (((σ.1 1 7) ≤ x5 → Φ x3 (σ)) ∧ (¬ (σ.1 1 7) ≤ x5 → hv_CI l (hv_e1 e) 0 m_X9_cell [.int x5, .int x1] (σ) (fun v2 s1 => (vp_in v2 24 ∧ ((((x2 >>> (x5 &&& 31)) &&& 1) = 0 → L_X2_surestOf_9 l e Φ x1 x2 x3 x4 (x5 + 1) s1) ∧ (¬ ((x2 >>> (x5 &&& 31)) &&& 1) = 0 → (((s1.1 3 v2.toNatClampNeg) ≤ x4 → L_X2_surestOf_9 l e Φ x1 x2 x3 x4 (x5 + 1) s1) ∧ (¬ (s1.1 3 v2.toNatClampNeg) ≤ x4 → L_X2_surestOf_9 l e Φ x1 x2 x5 (s1.1 3 v2.toNatClampNeg) (x5 + 1) s1))))))))) : L_X2_surestOf_9 l e Φ x1 x2 x3 x4 x5 σ := by
  show hv_TW l (hv_e1 e) (hv_rm 1) 0 0 m_X2_surestOf hv_no (hv_ZI (hv_e1 e) Φ) 9 [(0, .ref 1), (1, .int x1), (2, .int x2), (3, .int x3), (4, .int x4), (5, .int x5)] [] σ
  refine T_iload dX2_surestOf_9 5 rfl ?_
  refine T_aload_n dX2_surestOf_11 rfl 0 rfl ?_
  refine T_get (v := .int (σ.1 1 7)) dX2_surestOf_12 fl_X2_39 hp_1 hs_1 rfl rfl ?_
  refine T_icmp_ge (tgt := 60) dX2_surestOf_15 (by decide) (fun c4 => ?_) (fun c4 => ?_)
  · refine T_iload_n dX2_surestOf_60 rfl 3 rfl ?_
    exact T_iret dX2_surestOf_61 rfl (h.1 c4)
  · refine T_aload_n dX2_surestOf_18 rfl 0 rfl ?_
    refine T_get (v := .ref 3) dX2_surestOf_19 fl_X2_15 hp_1 hs_1 rfl rfl ?_
    refine T_iload dX2_surestOf_22 5 rfl ?_
    refine T_iload_n dX2_surestOf_24 rfl 1 rfl ?_
    refine T_SI (As := [.int x5, .int x1]) dX2_surestOf_25 ms_X2_43 rfl (Nat.le_of_ble_eq_true rfl) (hv_ok1 rfl) rfl (h.2 c4) (fun v2 s1 h3 => ?_)
    refine T_iald dX2_surestOf_28 hp_3 hs_3 h3.1 ?_
    refine T_istore dX2_surestOf_29 (by decide) rfl ?_
    refine T_iload_n dX2_surestOf_31 rfl 3 rfl ?_
    refine T_iload dX2_surestOf_32 6 rfl ?_
    refine T_ishr dX2_surestOf_34 ?_
    refine T_iconst (v := 1) dX2_surestOf_35 (by decide) ?_
    refine T_iand dX2_surestOf_36 ?_
    refine T_if_eq (tgt := 54) dX2_surestOf_37 (by decide) (fun c5 => ?_) (fun c5 => ?_)
    · refine T_iinc (v := (x5 + 1)) dX2_surestOf_54 6 rfl rfl (by decide) rfl ?_
      refine T_goto (tgt := 9) dX2_surestOf_57 (by decide) ?_
      exact T_sub [2, 3, 4, 5, 6, 0] rfl (h3.2.1 c5)
    · refine T_iload dX2_surestOf_40 0 rfl ?_
      refine T_iload dX2_surestOf_42 5 rfl ?_
      refine T_icmp_le (tgt := 54) dX2_surestOf_44 (by decide) (fun c6 => ?_) (fun c6 => ?_)
      · refine T_iinc (v := (x5 + 1)) dX2_surestOf_54 6 rfl rfl (by decide) rfl ?_
        refine T_goto (tgt := 9) dX2_surestOf_57 (by decide) ?_
        exact T_sub [2, 3, 4, 5, 6, 0] rfl ((h3.2.2 c5).1 c6)
      · refine T_iload dX2_surestOf_47 6 rfl ?_
        refine T_istore_n dX2_surestOf_49 rfl (by decide) rfl ?_
        refine T_iload dX2_surestOf_50 1 rfl ?_
        refine T_istore dX2_surestOf_52 (by decide) rfl ?_
        refine T_iinc (v := (x5 + 1)) dX2_surestOf_54 6 rfl rfl (by decide) rfl ?_
        refine T_goto (tgt := 9) dX2_surestOf_57 (by decide) ?_
        exact T_sub [4, 5, 6, 2, 1, 0] rfl ((h3.2.2 c5).2 c6)
set_option maxHeartbeats 4000000 in
set_option maxRecDepth 100000 in
theorem B_X2_surestOf {l : Launch} {e : hv_Ev}  (x1 : Int32) (x2 : Int32) {σ : hv_S} {Φ : Int32 → hv_S → Prop} (h : L_X2_surestOf_9 l e Φ x1 x2 (-5) (-1) 0 (σ)) : hv_CI l (hv_e1 e) 1 m_X2_surestOf [.ref 1, .int x1, .int x2] σ Φ := by
  refine hv_entI (by decide) (Nat.le_of_ble_eq_true rfl) ?_
  show hv_TW l (hv_e1 e) (hv_rm 1) 0 0 m_X2_surestOf hv_no (hv_ZI (hv_e1 e) Φ) 0 [(0, .ref 1), (1, .int x1), (2, .int x2)] [] σ
  refine T_bipush (v := (-5)) dX2_surestOf_0 (by decide) ?_
  refine T_istore_n dX2_surestOf_2 rfl (by decide) rfl ?_
  refine T_iconst (v := (-1)) dX2_surestOf_3 (by decide) ?_
  refine T_istore dX2_surestOf_4 (by decide) rfl ?_
  refine T_iconst (v := 0) dX2_surestOf_6 (by decide) ?_
  refine T_istore dX2_surestOf_7 (by decide) rfl ?_
  exact T_sub [3, 4, 5, 2, 1, 0] rfl h

def L_X2_takenBackAt_5 (l : Launch) (e : hv_Ev)  (Φ : Int32 → hv_S → Prop) (x1 : Int32) (x2 : Int32) (x3 : Int32) (x4 : Int32) (σ : hv_S) : Prop := hv_TW l (hv_e1 e) (hv_rm 1) 0 0 m_X2_takenBackAt hv_no (hv_ZI (hv_e1 e) Φ) 5 [(0, .ref 1), (1, .int x1), (2, .int x2), (3, .int x3), (4, .int x4)] [] σ
set_option maxHeartbeats 4000000 in
set_option maxRecDepth 100000 in
theorem B_X2_takenBackAt_5 {l : Launch} {e : hv_Ev}  (x1 : Int32) (x2 : Int32) (x3 : Int32) (x4 : Int32) {σ : hv_S} {Φ : Int32 → hv_S → Prop} (h : (((σ.1 1 7) ≤ x4 → Φ x3 (σ)) ∧ (¬ (σ.1 1 7) ≤ x4 → hv_CI l (hv_e1 e) 0 m_X9_cell [.int x4, .int x1] (σ) (fun v2 s1 => (vp_in v2 24 ∧ ((x2 < (s1.1 5 v2.toNatClampNeg) → L_X2_takenBackAt_5 l e Φ x1 x2 x3 (x4 + 1) s1) ∧ (¬ x2 < (s1.1 5 v2.toNatClampNeg) → L_X2_takenBackAt_5 l e Φ x1 x2 (x3 ||| ((1 : Int32) <<< (x4 &&& 31))) (x4 + 1) s1))))))) : L_X2_takenBackAt_5 l e Φ x1 x2 x3 x4 σ := by
  show hv_TW l (hv_e1 e) (hv_rm 1) 0 0 m_X2_takenBackAt hv_no (hv_ZI (hv_e1 e) Φ) 5 [(0, .ref 1), (1, .int x1), (2, .int x2), (3, .int x3), (4, .int x4)] [] σ
  refine T_iload dX2_takenBackAt_5 4 rfl ?_
  refine T_aload_n dX2_takenBackAt_7 rfl 0 rfl ?_
  refine T_get (v := .int (σ.1 1 7)) dX2_takenBackAt_8 fl_X2_39 hp_1 hs_1 rfl rfl ?_
  refine T_icmp_ge (tgt := 42) dX2_takenBackAt_11 (by decide) (fun c4 => ?_) (fun c4 => ?_)
  · refine T_iload_n dX2_takenBackAt_42 rfl 3 rfl ?_
    exact T_iret dX2_takenBackAt_43 rfl (h.1 c4)
  · refine T_iload_n dX2_takenBackAt_14 rfl 2 rfl ?_
    refine T_aload_n dX2_takenBackAt_15 rfl 0 rfl ?_
    refine T_get (v := .ref 5) dX2_takenBackAt_16 fl_X2_21 hp_1 hs_1 rfl rfl ?_
    refine T_iload dX2_takenBackAt_19 4 rfl ?_
    refine T_iload_n dX2_takenBackAt_21 rfl 1 rfl ?_
    refine T_SI (As := [.int x4, .int x1]) dX2_takenBackAt_22 ms_X2_43 rfl (Nat.le_of_ble_eq_true rfl) (hv_ok1 rfl) rfl (h.2 c4) (fun v2 s1 h3 => ?_)
    refine T_iald dX2_takenBackAt_25 hp_5 hs_5 h3.1 ?_
    refine T_icmp_lt (tgt := 36) dX2_takenBackAt_26 (by decide) (fun c5 => ?_) (fun c5 => ?_)
    · refine T_iinc (v := (x4 + 1)) dX2_takenBackAt_36 4 rfl rfl (by decide) rfl ?_
      refine T_goto (tgt := 5) dX2_takenBackAt_39 (by decide) ?_
      exact T_sub [1, 2, 3, 4, 0] rfl (h3.2.1 c5)
    · refine T_iload_n dX2_takenBackAt_29 rfl 3 rfl ?_
      refine T_iconst (v := 1) dX2_takenBackAt_30 (by decide) ?_
      refine T_iload dX2_takenBackAt_31 4 rfl ?_
      refine T_ishl dX2_takenBackAt_33 ?_
      refine T_ior dX2_takenBackAt_34 ?_
      refine T_istore_n dX2_takenBackAt_35 rfl (by decide) rfl ?_
      refine T_iinc (v := (x4 + 1)) dX2_takenBackAt_36 4 rfl rfl (by decide) rfl ?_
      refine T_goto (tgt := 5) dX2_takenBackAt_39 (by decide) ?_
      exact T_sub [2, 3, 4, 1, 0] rfl (h3.2.2 c5)
set_option maxHeartbeats 4000000 in
set_option maxRecDepth 100000 in
theorem B_X2_takenBackAt {l : Launch} {e : hv_Ev}  (x1 : Int32) (x2 : Int32) {σ : hv_S} {Φ : Int32 → hv_S → Prop} (h : L_X2_takenBackAt_5 l e Φ x1 x2 0 0 (σ)) : hv_CI l (hv_e1 e) 1 m_X2_takenBackAt [.ref 1, .int x1, .int x2] σ Φ := by
  refine hv_entI (by decide) (Nat.le_of_ble_eq_true rfl) ?_
  show hv_TW l (hv_e1 e) (hv_rm 1) 0 0 m_X2_takenBackAt hv_no (hv_ZI (hv_e1 e) Φ) 0 [(0, .ref 1), (1, .int x1), (2, .int x2)] [] σ
  refine T_iconst (v := 0) dX2_takenBackAt_0 (by decide) ?_
  refine T_istore_n dX2_takenBackAt_1 rfl (by decide) rfl ?_
  refine T_iconst (v := 0) dX2_takenBackAt_2 (by decide) ?_
  refine T_istore dX2_takenBackAt_3 (by decide) rfl ?_
  exact T_sub [2, 3, 4, 1, 0] rfl h
end
section
-- printed by wip/gen/p10b.py: the JDK's own methods
theorem dJ3_checkIndex_8e157_0 : decode cJ3_checkIndex_8e157 0 = .ok (.iload_n 0, 1) := by decide +kernel
theorem dJ3_checkIndex_8e157_1 : decode cJ3_checkIndex_8e157 1 = .ok (.ifCond .lt 8, 3) := by decide +kernel
theorem dJ3_checkIndex_8e157_4 : decode cJ3_checkIndex_8e157 4 = .ok (.iload_n 0, 1) := by decide +kernel
theorem dJ3_checkIndex_8e157_5 : decode cJ3_checkIndex_8e157 5 = .ok (.iload_n 1, 1) := by decide +kernel
theorem dJ3_checkIndex_8e157_6 : decode cJ3_checkIndex_8e157 6 = .ok (.if_icmp .lt 10, 3) := by decide +kernel
theorem dJ3_checkIndex_8e157_9 : decode cJ3_checkIndex_8e157 9 = .ok (.aload_n 2, 1) := by decide +kernel
theorem dJ3_checkIndex_8e157_10 : decode cJ3_checkIndex_8e157 10 = .ok (.iload_n 0, 1) := by decide +kernel
theorem dJ3_checkIndex_8e157_11 : decode cJ3_checkIndex_8e157 11 = .ok (.iload_n 1, 1) := by decide +kernel
theorem dJ3_checkIndex_8e157_12 : decode cJ3_checkIndex_8e157 12 = .ok (.invokestatic 95, 3) := by decide +kernel
theorem dJ3_checkIndex_8e157_15 : decode cJ3_checkIndex_8e157 15 = .ok (.athrow, 1) := by decide +kernel
theorem dJ3_checkIndex_8e157_16 : decode cJ3_checkIndex_8e157 16 = .ok (.iload_n 0, 1) := by decide +kernel
theorem dJ3_checkIndex_8e157_17 : decode cJ3_checkIndex_8e157 17 = .ok (.ireturn, 1) := by decide +kernel
theorem dJ0_checkIndex_df160_0 : decode cJ0_checkIndex_df160 0 = .ok (.iload_n 0, 1) := by decide +kernel
theorem dJ0_checkIndex_df160_1 : decode cJ0_checkIndex_df160 1 = .ok (.iload_n 1, 1) := by decide +kernel
theorem dJ0_checkIndex_df160_2 : decode cJ0_checkIndex_df160 2 = .ok (.getstatic 1053, 3) := by decide +kernel
theorem dJ0_checkIndex_df160_5 : decode cJ0_checkIndex_df160 5 = .ok (.invokestatic 1059, 3) := by decide +kernel
theorem dJ0_checkIndex_df160_8 : decode cJ0_checkIndex_df160 8 = .ok (.pop, 1) := by decide +kernel
theorem dJ0_checkIndex_df160_9 : decode cJ0_checkIndex_df160 9 = .ok (.return_, 1) := by decide +kernel
theorem dJ0_coder_7d493_0 : decode cJ0_coder_7d493 0 = .ok (.getstatic 38, 3) := by decide +kernel
theorem dJ0_coder_7d493_3 : decode cJ0_coder_7d493 3 = .ok (.ifCond .eq 10, 3) := by decide +kernel
theorem dJ0_coder_7d493_6 : decode cJ0_coder_7d493 6 = .ok (.aload_n 0, 1) := by decide +kernel
theorem dJ0_coder_7d493_7 : decode cJ0_coder_7d493 7 = .ok (.getfield 15, 3) := by decide +kernel
theorem dJ0_coder_7d493_10 : decode cJ0_coder_7d493 10 = .ok (.goto 4, 3) := by decide +kernel
theorem dJ0_coder_7d493_13 : decode cJ0_coder_7d493 13 = .ok (.iconst 1, 1) := by decide +kernel
theorem dJ0_coder_7d493_14 : decode cJ0_coder_7d493 14 = .ok (.ireturn, 1) := by decide +kernel
theorem dJ0_isLatin1_aae02_0 : decode cJ0_isLatin1_aae02 0 = .ok (.getstatic 38, 3) := by decide +kernel
theorem dJ0_isLatin1_aae02_3 : decode cJ0_isLatin1_aae02 3 = .ok (.ifCond .eq 14, 3) := by decide +kernel
theorem dJ0_isLatin1_aae02_6 : decode cJ0_isLatin1_aae02 6 = .ok (.aload_n 0, 1) := by decide +kernel
theorem dJ0_isLatin1_aae02_7 : decode cJ0_isLatin1_aae02 7 = .ok (.getfield 15, 3) := by decide +kernel
theorem dJ0_isLatin1_aae02_10 : decode cJ0_isLatin1_aae02 10 = .ok (.ifCond .ne 7, 3) := by decide +kernel
theorem dJ0_isLatin1_aae02_13 : decode cJ0_isLatin1_aae02 13 = .ok (.iconst 1, 1) := by decide +kernel
theorem dJ0_isLatin1_aae02_14 : decode cJ0_isLatin1_aae02 14 = .ok (.goto 4, 3) := by decide +kernel
theorem dJ0_isLatin1_aae02_17 : decode cJ0_isLatin1_aae02 17 = .ok (.iconst 0, 1) := by decide +kernel
theorem dJ0_isLatin1_aae02_18 : decode cJ0_isLatin1_aae02 18 = .ok (.ireturn, 1) := by decide +kernel
theorem dJ0_length_8abf5_0 : decode cJ0_length_8abf5 0 = .ok (.aload_n 0, 1) := by decide +kernel
theorem dJ0_length_8abf5_1 : decode cJ0_length_8abf5 1 = .ok (.getfield 9, 3) := by decide +kernel
theorem dJ0_length_8abf5_4 : decode cJ0_length_8abf5 4 = .ok (.arraylength, 1) := by decide +kernel
theorem dJ0_length_8abf5_5 : decode cJ0_length_8abf5 5 = .ok (.aload_n 0, 1) := by decide +kernel
theorem dJ0_length_8abf5_6 : decode cJ0_length_8abf5 6 = .ok (.invokevirtual 335, 3) := by decide +kernel
theorem dJ0_length_8abf5_9 : decode cJ0_length_8abf5 9 = .ok (.ishr, 1) := by decide +kernel
theorem dJ0_length_8abf5_10 : decode cJ0_length_8abf5 10 = .ok (.ireturn, 1) := by decide +kernel
theorem dJ1_charAt_3b067_0 : decode cJ1_charAt_3b067 0 = .ok (.iload_n 1, 1) := by decide +kernel
theorem dJ1_charAt_3b067_1 : decode cJ1_charAt_3b067 1 = .ok (.aload_n 0, 1) := by decide +kernel
theorem dJ1_charAt_3b067_2 : decode cJ1_charAt_3b067 2 = .ok (.arraylength, 1) := by decide +kernel
theorem dJ1_charAt_3b067_3 : decode cJ1_charAt_3b067 3 = .ok (.invokestatic 9, 3) := by decide +kernel
theorem dJ1_charAt_3b067_6 : decode cJ1_charAt_3b067 6 = .ok (.aload_n 0, 1) := by decide +kernel
theorem dJ1_charAt_3b067_7 : decode cJ1_charAt_3b067 7 = .ok (.iload_n 1, 1) := by decide +kernel
theorem dJ1_charAt_3b067_8 : decode cJ1_charAt_3b067 8 = .ok (.baload, 1) := by decide +kernel
theorem dJ1_charAt_3b067_9 : decode cJ1_charAt_3b067 9 = .ok (.sipush 255, 3) := by decide +kernel
theorem dJ1_charAt_3b067_12 : decode cJ1_charAt_3b067 12 = .ok (.iand, 1) := by decide +kernel
theorem dJ1_charAt_3b067_13 : decode cJ1_charAt_3b067 13 = .ok (.i2c, 1) := by decide +kernel
theorem dJ1_charAt_3b067_14 : decode cJ1_charAt_3b067 14 = .ok (.ireturn, 1) := by decide +kernel
theorem dJ0_charAt_5068e_0 : decode cJ0_charAt_5068e 0 = .ok (.aload_n 0, 1) := by decide +kernel
theorem dJ0_charAt_5068e_1 : decode cJ0_charAt_5068e 1 = .ok (.invokevirtual 492, 3) := by decide +kernel
theorem dJ0_charAt_5068e_4 : decode cJ0_charAt_5068e 4 = .ok (.ifCond .eq 12, 3) := by decide +kernel
theorem dJ0_charAt_5068e_7 : decode cJ0_charAt_5068e 7 = .ok (.aload_n 0, 1) := by decide +kernel
theorem dJ0_charAt_5068e_8 : decode cJ0_charAt_5068e 8 = .ok (.getfield 9, 3) := by decide +kernel
theorem dJ0_charAt_5068e_11 : decode cJ0_charAt_5068e 11 = .ok (.iload_n 1, 1) := by decide +kernel
theorem dJ0_charAt_5068e_12 : decode cJ0_charAt_5068e 12 = .ok (.invokestatic 495, 3) := by decide +kernel
theorem dJ0_charAt_5068e_15 : decode cJ0_charAt_5068e 15 = .ok (.ireturn, 1) := by decide +kernel
theorem dJ0_charAt_5068e_16 : decode cJ0_charAt_5068e 16 = .ok (.aload_n 0, 1) := by decide +kernel
theorem dJ0_charAt_5068e_17 : decode cJ0_charAt_5068e 17 = .ok (.getfield 9, 3) := by decide +kernel
theorem dJ0_charAt_5068e_20 : decode cJ0_charAt_5068e 20 = .ok (.iload_n 1, 1) := by decide +kernel
theorem dJ0_charAt_5068e_21 : decode cJ0_charAt_5068e 21 = .ok (.invokestatic 498, 3) := by decide +kernel
theorem dJ0_charAt_5068e_24 : decode cJ0_charAt_5068e 24 = .ok (.ireturn, 1) := by decide +kernel
theorem dJ6_bitCount_0f7a4_0 : decode cJ6_bitCount_0f7a4 0 = .ok (.iload_n 0, 1) := by decide +kernel
theorem dJ6_bitCount_0f7a4_1 : decode cJ6_bitCount_0f7a4 1 = .ok (.iload_n 0, 1) := by decide +kernel
theorem dJ6_bitCount_0f7a4_2 : decode cJ6_bitCount_0f7a4 2 = .ok (.iconst 1, 1) := by decide +kernel
theorem dJ6_bitCount_0f7a4_3 : decode cJ6_bitCount_0f7a4 3 = .ok (.iushr, 1) := by decide +kernel
theorem dJ6_bitCount_0f7a4_4 : decode cJ6_bitCount_0f7a4 4 = .ok (.ldc_w 265, 3) := by decide +kernel
theorem dJ6_bitCount_0f7a4_7 : decode cJ6_bitCount_0f7a4 7 = .ok (.iand, 1) := by decide +kernel
theorem dJ6_bitCount_0f7a4_8 : decode cJ6_bitCount_0f7a4 8 = .ok (.isub, 1) := by decide +kernel
theorem dJ6_bitCount_0f7a4_9 : decode cJ6_bitCount_0f7a4 9 = .ok (.istore_n 0, 1) := by decide +kernel
theorem dJ6_bitCount_0f7a4_10 : decode cJ6_bitCount_0f7a4 10 = .ok (.iload_n 0, 1) := by decide +kernel
theorem dJ6_bitCount_0f7a4_11 : decode cJ6_bitCount_0f7a4 11 = .ok (.ldc_w 266, 3) := by decide +kernel
theorem dJ6_bitCount_0f7a4_14 : decode cJ6_bitCount_0f7a4 14 = .ok (.iand, 1) := by decide +kernel
theorem dJ6_bitCount_0f7a4_15 : decode cJ6_bitCount_0f7a4 15 = .ok (.iload_n 0, 1) := by decide +kernel
theorem dJ6_bitCount_0f7a4_16 : decode cJ6_bitCount_0f7a4 16 = .ok (.iconst 2, 1) := by decide +kernel
theorem dJ6_bitCount_0f7a4_17 : decode cJ6_bitCount_0f7a4 17 = .ok (.iushr, 1) := by decide +kernel
theorem dJ6_bitCount_0f7a4_18 : decode cJ6_bitCount_0f7a4 18 = .ok (.ldc_w 266, 3) := by decide +kernel
theorem dJ6_bitCount_0f7a4_21 : decode cJ6_bitCount_0f7a4 21 = .ok (.iand, 1) := by decide +kernel
theorem dJ6_bitCount_0f7a4_22 : decode cJ6_bitCount_0f7a4 22 = .ok (.iadd, 1) := by decide +kernel
theorem dJ6_bitCount_0f7a4_23 : decode cJ6_bitCount_0f7a4 23 = .ok (.istore_n 0, 1) := by decide +kernel
theorem dJ6_bitCount_0f7a4_24 : decode cJ6_bitCount_0f7a4 24 = .ok (.iload_n 0, 1) := by decide +kernel
theorem dJ6_bitCount_0f7a4_25 : decode cJ6_bitCount_0f7a4 25 = .ok (.iload_n 0, 1) := by decide +kernel
theorem dJ6_bitCount_0f7a4_26 : decode cJ6_bitCount_0f7a4 26 = .ok (.iconst 4, 1) := by decide +kernel
theorem dJ6_bitCount_0f7a4_27 : decode cJ6_bitCount_0f7a4 27 = .ok (.iushr, 1) := by decide +kernel
theorem dJ6_bitCount_0f7a4_28 : decode cJ6_bitCount_0f7a4 28 = .ok (.iadd, 1) := by decide +kernel
theorem dJ6_bitCount_0f7a4_29 : decode cJ6_bitCount_0f7a4 29 = .ok (.ldc_w 267, 3) := by decide +kernel
theorem dJ6_bitCount_0f7a4_32 : decode cJ6_bitCount_0f7a4 32 = .ok (.iand, 1) := by decide +kernel
theorem dJ6_bitCount_0f7a4_33 : decode cJ6_bitCount_0f7a4 33 = .ok (.istore_n 0, 1) := by decide +kernel
theorem dJ6_bitCount_0f7a4_34 : decode cJ6_bitCount_0f7a4 34 = .ok (.iload_n 0, 1) := by decide +kernel
theorem dJ6_bitCount_0f7a4_35 : decode cJ6_bitCount_0f7a4 35 = .ok (.iload_n 0, 1) := by decide +kernel
theorem dJ6_bitCount_0f7a4_36 : decode cJ6_bitCount_0f7a4 36 = .ok (.bipush 8, 2) := by decide +kernel
theorem dJ6_bitCount_0f7a4_38 : decode cJ6_bitCount_0f7a4 38 = .ok (.iushr, 1) := by decide +kernel
theorem dJ6_bitCount_0f7a4_39 : decode cJ6_bitCount_0f7a4 39 = .ok (.iadd, 1) := by decide +kernel
theorem dJ6_bitCount_0f7a4_40 : decode cJ6_bitCount_0f7a4 40 = .ok (.istore_n 0, 1) := by decide +kernel
theorem dJ6_bitCount_0f7a4_41 : decode cJ6_bitCount_0f7a4 41 = .ok (.iload_n 0, 1) := by decide +kernel
theorem dJ6_bitCount_0f7a4_42 : decode cJ6_bitCount_0f7a4 42 = .ok (.iload_n 0, 1) := by decide +kernel
theorem dJ6_bitCount_0f7a4_43 : decode cJ6_bitCount_0f7a4 43 = .ok (.bipush 16, 2) := by decide +kernel
theorem dJ6_bitCount_0f7a4_45 : decode cJ6_bitCount_0f7a4 45 = .ok (.iushr, 1) := by decide +kernel
theorem dJ6_bitCount_0f7a4_46 : decode cJ6_bitCount_0f7a4 46 = .ok (.iadd, 1) := by decide +kernel
theorem dJ6_bitCount_0f7a4_47 : decode cJ6_bitCount_0f7a4 47 = .ok (.istore_n 0, 1) := by decide +kernel
theorem dJ6_bitCount_0f7a4_48 : decode cJ6_bitCount_0f7a4 48 = .ok (.iload_n 0, 1) := by decide +kernel
theorem dJ6_bitCount_0f7a4_49 : decode cJ6_bitCount_0f7a4 49 = .ok (.bipush 63, 2) := by decide +kernel
theorem dJ6_bitCount_0f7a4_51 : decode cJ6_bitCount_0f7a4 51 = .ok (.iand, 1) := by decide +kernel
theorem dJ6_bitCount_0f7a4_52 : decode cJ6_bitCount_0f7a4 52 = .ok (.ireturn, 1) := by decide +kernel
theorem dJ9_min_7cf53_0 : decode cJ9_min_7cf53 0 = .ok (.iload_n 0, 1) := by decide +kernel
theorem dJ9_min_7cf53_1 : decode cJ9_min_7cf53 1 = .ok (.iload_n 1, 1) := by decide +kernel
theorem dJ9_min_7cf53_2 : decode cJ9_min_7cf53 2 = .ok (.if_icmp .gt 7, 3) := by decide +kernel
theorem dJ9_min_7cf53_5 : decode cJ9_min_7cf53 5 = .ok (.iload_n 0, 1) := by decide +kernel
theorem dJ9_min_7cf53_6 : decode cJ9_min_7cf53 6 = .ok (.goto 4, 3) := by decide +kernel
theorem dJ9_min_7cf53_9 : decode cJ9_min_7cf53 9 = .ok (.iload_n 1, 1) := by decide +kernel
theorem dJ9_min_7cf53_10 : decode cJ9_min_7cf53 10 = .ok (.ireturn, 1) := by decide +kernel
theorem dJ9_min_f86c9_0 : decode cJ9_min_f86c9 0 = .ok (.lload_n 0, 1) := by decide +kernel
theorem dJ9_min_f86c9_1 : decode cJ9_min_f86c9 1 = .ok (.lload_n 2, 1) := by decide +kernel
theorem dJ9_min_f86c9_2 : decode cJ9_min_f86c9 2 = .ok (.lcmp, 1) := by decide +kernel
theorem dJ9_min_f86c9_3 : decode cJ9_min_f86c9 3 = .ok (.ifCond .gt 7, 3) := by decide +kernel
theorem dJ9_min_f86c9_6 : decode cJ9_min_f86c9 6 = .ok (.lload_n 0, 1) := by decide +kernel
theorem dJ9_min_f86c9_7 : decode cJ9_min_f86c9 7 = .ok (.goto 4, 3) := by decide +kernel
theorem dJ9_min_f86c9_10 : decode cJ9_min_f86c9 10 = .ok (.lload_n 2, 1) := by decide +kernel
theorem dJ9_min_f86c9_11 : decode cJ9_min_f86c9 11 = .ok (.lreturn, 1) := by decide +kernel
theorem dJ9_max_f86c9_0 : decode cJ9_max_f86c9 0 = .ok (.lload_n 0, 1) := by decide +kernel
theorem dJ9_max_f86c9_1 : decode cJ9_max_f86c9 1 = .ok (.lload_n 2, 1) := by decide +kernel
theorem dJ9_max_f86c9_2 : decode cJ9_max_f86c9 2 = .ok (.lcmp, 1) := by decide +kernel
theorem dJ9_max_f86c9_3 : decode cJ9_max_f86c9 3 = .ok (.ifCond .lt 7, 3) := by decide +kernel
theorem dJ9_max_f86c9_6 : decode cJ9_max_f86c9 6 = .ok (.lload_n 0, 1) := by decide +kernel
theorem dJ9_max_f86c9_7 : decode cJ9_max_f86c9 7 = .ok (.goto 4, 3) := by decide +kernel
theorem dJ9_max_f86c9_10 : decode cJ9_max_f86c9 10 = .ok (.lload_n 2, 1) := by decide +kernel
theorem dJ9_max_f86c9_11 : decode cJ9_max_f86c9 11 = .ok (.lreturn, 1) := by decide +kernel
theorem dJ7_fill_53178_0 : decode cJ7_fill_53178 0 = .ok (.iconst 0, 1) := by decide +kernel
theorem dJ7_fill_53178_1 : decode cJ7_fill_53178 1 = .ok (.istore_n 2, 1) := by decide +kernel
theorem dJ7_fill_53178_2 : decode cJ7_fill_53178 2 = .ok (.aload_n 0, 1) := by decide +kernel
theorem dJ7_fill_53178_3 : decode cJ7_fill_53178 3 = .ok (.arraylength, 1) := by decide +kernel
theorem dJ7_fill_53178_4 : decode cJ7_fill_53178 4 = .ok (.istore_n 3, 1) := by decide +kernel
theorem dJ7_fill_53178_5 : decode cJ7_fill_53178 5 = .ok (.iload_n 2, 1) := by decide +kernel
theorem dJ7_fill_53178_6 : decode cJ7_fill_53178 6 = .ok (.iload_n 3, 1) := by decide +kernel
theorem dJ7_fill_53178_7 : decode cJ7_fill_53178 7 = .ok (.if_icmp .ge 13, 3) := by decide +kernel
theorem dJ7_fill_53178_10 : decode cJ7_fill_53178 10 = .ok (.aload_n 0, 1) := by decide +kernel
theorem dJ7_fill_53178_11 : decode cJ7_fill_53178 11 = .ok (.iload_n 2, 1) := by decide +kernel
theorem dJ7_fill_53178_12 : decode cJ7_fill_53178 12 = .ok (.iload_n 1, 1) := by decide +kernel
theorem dJ7_fill_53178_13 : decode cJ7_fill_53178 13 = .ok (.iastore, 1) := by decide +kernel
theorem dJ7_fill_53178_14 : decode cJ7_fill_53178 14 = .ok (.iinc 2 1, 3) := by decide +kernel
theorem dJ7_fill_53178_17 : decode cJ7_fill_53178 17 = .ok (.goto (-12), 3) := by decide +kernel
theorem dJ7_fill_53178_20 : decode cJ7_fill_53178 20 = .ok (.return_, 1) := by decide +kernel
theorem dJ7_fill_d0a16_0 : decode cJ7_fill_d0a16 0 = .ok (.iconst 0, 1) := by decide +kernel
theorem dJ7_fill_d0a16_1 : decode cJ7_fill_d0a16 1 = .ok (.istore_n 3, 1) := by decide +kernel
theorem dJ7_fill_d0a16_2 : decode cJ7_fill_d0a16 2 = .ok (.aload_n 0, 1) := by decide +kernel
theorem dJ7_fill_d0a16_3 : decode cJ7_fill_d0a16 3 = .ok (.arraylength, 1) := by decide +kernel
theorem dJ7_fill_d0a16_4 : decode cJ7_fill_d0a16 4 = .ok (.istore 4, 2) := by decide +kernel
theorem dJ7_fill_d0a16_6 : decode cJ7_fill_d0a16 6 = .ok (.iload_n 3, 1) := by decide +kernel
theorem dJ7_fill_d0a16_7 : decode cJ7_fill_d0a16 7 = .ok (.iload 4, 2) := by decide +kernel
theorem dJ7_fill_d0a16_9 : decode cJ7_fill_d0a16 9 = .ok (.if_icmp .ge 13, 3) := by decide +kernel
theorem dJ7_fill_d0a16_12 : decode cJ7_fill_d0a16 12 = .ok (.aload_n 0, 1) := by decide +kernel
theorem dJ7_fill_d0a16_13 : decode cJ7_fill_d0a16 13 = .ok (.iload_n 3, 1) := by decide +kernel
theorem dJ7_fill_d0a16_14 : decode cJ7_fill_d0a16 14 = .ok (.lload_n 1, 1) := by decide +kernel
theorem dJ7_fill_d0a16_15 : decode cJ7_fill_d0a16 15 = .ok (.lastore, 1) := by decide +kernel
theorem dJ7_fill_d0a16_16 : decode cJ7_fill_d0a16 16 = .ok (.iinc 3 1, 3) := by decide +kernel
theorem dJ7_fill_d0a16_19 : decode cJ7_fill_d0a16 19 = .ok (.goto (-13), 3) := by decide +kernel
theorem dJ7_fill_d0a16_22 : decode cJ7_fill_d0a16 22 = .ok (.return_, 1) := by decide +kernel
set_option maxHeartbeats 4000000 in
set_option maxRecDepth 100000 in
theorem B_J3_checkIndex_8e157 {l : Launch} {E : hv_E}  (x1 : Int32) (x2 : Int32) {σ : hv_S} {Φ : Int32 → hv_S → Prop} (h : ((x1 < 0 → False) ∧ (¬ x1 < 0 → ((x1 < x2 → Φ x1 (σ)) ∧ (¬ x1 < x2 → False))))) : hv_CI l E 0 m_J3_checkIndex_8e157 [.int x1, .int x2, .ref 3000] σ Φ := by
  refine hv_entI (by decide) (Nat.le_of_ble_eq_true rfl) ?_
  show hv_TW l E (hv_rm 0) 0 0 m_J3_checkIndex_8e157 hv_no (hv_ZI E Φ) 0 [(0, .int x1), (1, .int x2), (2, .ref 3000)] [] σ
  refine T_iload_n dJ3_checkIndex_8e157_0 rfl 0 rfl ?_
  refine T_if_lt (tgt := 9) dJ3_checkIndex_8e157_1 (by decide) (fun c1 => ?_) (fun c1 => ?_)
  · refine T_aload_n dJ3_checkIndex_8e157_9 rfl 2 rfl ?_
    refine T_iload_n dJ3_checkIndex_8e157_10 rfl 0 rfl ?_
    refine T_iload_n dJ3_checkIndex_8e157_11 rfl 1 rfl ?_
    exact False.elim (h.1 c1)
  · refine T_iload_n dJ3_checkIndex_8e157_4 rfl 0 rfl ?_
    refine T_iload_n dJ3_checkIndex_8e157_5 rfl 1 rfl ?_
    refine T_icmp_lt (tgt := 16) dJ3_checkIndex_8e157_6 (by decide) (fun c2 => ?_) (fun c2 => ?_)
    · refine T_iload_n dJ3_checkIndex_8e157_16 rfl 0 rfl ?_
      exact T_iret dJ3_checkIndex_8e157_17 rfl ((h.2 c1).1 c2)
    · refine T_aload_n dJ3_checkIndex_8e157_9 rfl 2 rfl ?_
      refine T_iload_n dJ3_checkIndex_8e157_10 rfl 0 rfl ?_
      refine T_iload_n dJ3_checkIndex_8e157_11 rfl 1 rfl ?_
      exact False.elim ((h.2 c1).2 c2)

set_option maxHeartbeats 4000000 in
set_option maxRecDepth 100000 in
theorem B_J0_checkIndex_df160 {l : Launch} {E : hv_E}  (x1 : Int32) (x2 : Int32) {σ : hv_S} {Φ : hv_S → Prop} (h : hv_CI l E 0 m_J3_checkIndex_8e157 [.int x1, .int x2, .ref 3000] (σ) (fun v2 s1 => Φ s1)) : hv_CV l E 1 m_J0_checkIndex_df160 [.int x1, .int x2] σ Φ := by
  refine hv_entV (by decide) (Nat.le_of_ble_eq_true rfl) ?_
  show hv_TW l E (hv_rm 1) 0 0 m_J0_checkIndex_df160 hv_no (hv_ZV E Φ) 0 [(0, .int x1), (1, .int x2)] [] σ
  refine T_iload_n dJ0_checkIndex_df160_0 rfl 0 rfl ?_
  refine T_iload_n dJ0_checkIndex_df160_1 rfl 1 rfl ?_
  refine T_getsF dJ0_checkIndex_df160_2 (hv_in 611 (by decide +kernel) (by decide +kernel)) ?_
  refine T_SI (As := [.int x1, .int x2, .ref 3000]) dJ0_checkIndex_df160_5 ms_J0_1059 rfl (Nat.le_of_ble_eq_true rfl) (hv_ok1 rfl) rfl h (fun v2 s1 h3 => ?_)
  refine T_pop dJ0_checkIndex_df160_8 rfl ?_
  exact T_vret dJ0_checkIndex_df160_9 rfl h3

set_option maxHeartbeats 4000000 in
set_option maxRecDepth 100000 in
theorem B_J0_coder_7d493 {l : Launch} {E : hv_E} (w : Nat) (hw : w < 7)  {σ : hv_S} {Φ : Int32 → hv_S → Prop} (h : (narrow .byte (.int 0) = .int 0 ∧ Φ 0 (σ))) : hv_CI l E 0 m_J0_coder_7d493 [.ref (1000 + w)] σ Φ := by
  refine hv_entI (by decide) (Nat.le_of_ble_eq_true rfl) ?_
  show hv_TW l E (hv_rm 0) 0 0 m_J0_coder_7d493 hv_no (hv_ZI E Φ) 0 [(0, .ref (1000 + w))] [] σ
  refine T_getsC dJ0_coder_7d493_0 (hv_in 595 (by decide +kernel) (by decide +kernel)) ?_
  refine T_if_eq (tgt := 13) dJ0_coder_7d493_3 (by decide) (fun q => absurd q (by decide)) (fun _ => ?_)
  refine T_aload_n dJ0_coder_7d493_6 rfl 0 rfl ?_
  refine T_getSc dJ0_coder_7d493_7 hw (hv_in 1588 (by decide +kernel) (by decide +kernel)) ?_
  refine T_goto (tgt := 14) dJ0_coder_7d493_10 (by decide) ?_
  exact T_xret dJ0_coder_7d493_14 rfl h.1 h.2

set_option maxHeartbeats 4000000 in
set_option maxRecDepth 100000 in
theorem B_J0_isLatin1_aae02 {l : Launch} {E : hv_E} (w : Nat) (hw : w < 7)  {σ : hv_S} {Φ : Int32 → hv_S → Prop} (h : Φ 1 (σ)) : hv_CI l E 0 m_J0_isLatin1_aae02 [.ref (1000 + w)] σ Φ := by
  refine hv_entI (by decide) (Nat.le_of_ble_eq_true rfl) ?_
  show hv_TW l E (hv_rm 0) 0 0 m_J0_isLatin1_aae02 hv_no (hv_ZI E Φ) 0 [(0, .ref (1000 + w))] [] σ
  refine T_getsC dJ0_isLatin1_aae02_0 (hv_in 595 (by decide +kernel) (by decide +kernel)) ?_
  refine T_if_eq (tgt := 17) dJ0_isLatin1_aae02_3 (by decide) (fun q => absurd q (by decide)) (fun _ => ?_)
  refine T_aload_n dJ0_isLatin1_aae02_6 rfl 0 rfl ?_
  refine T_getSc dJ0_isLatin1_aae02_7 hw (hv_in 1588 (by decide +kernel) (by decide +kernel)) ?_
  refine T_if_ne (tgt := 17) dJ0_isLatin1_aae02_10 (by decide) (fun q => absurd q (by decide)) (fun _ => ?_)
  refine T_iconst (v := 1) dJ0_isLatin1_aae02_13 (by decide) ?_
  refine T_goto (tgt := 18) dJ0_isLatin1_aae02_14 (by decide) ?_
  exact T_zret dJ0_isLatin1_aae02_18 rfl (by decide) h

set_option maxHeartbeats 4000000 in
set_option maxRecDepth 100000 in
theorem B_J0_length_8abf5 {l : Launch} {E : hv_E} (w : Nat) (hw : w < 7)  {σ : hv_S} {Φ : Int32 → hv_S → Prop} (h : hv_CI l E 0 m_J0_coder_7d493 [.ref (1000 + w)] (σ) (fun v2 s1 => Φ ((Int32.ofNat (hv_len.getD w 0)) >>> (v2 &&& 31)) s1)) : hv_CI l E 1 m_J0_length_8abf5 [.ref (1000 + w)] σ Φ := by
  refine hv_entI (by decide) (Nat.le_of_ble_eq_true rfl) ?_
  show hv_TW l E (hv_rm 1) 0 0 m_J0_length_8abf5 hv_no (hv_ZI E Φ) 0 [(0, .ref (1000 + w))] [] σ
  refine T_aload_n dJ0_length_8abf5_0 rfl 0 rfl ?_
  refine T_getSv dJ0_length_8abf5_1 hw (hv_in 1587 (by decide +kernel) (by decide +kernel)) ?_
  refine T_alenS (v := (Int32.ofNat (hv_len.getD w 0))) dJ0_length_8abf5_4 hw rfl ?_
  refine T_aload_n dJ0_length_8abf5_5 rfl 0 rfl ?_
  refine T_VIs (As := []) dJ0_length_8abf5_6 ⟨mw_J0_coder_7d493, (hv_in 592 (by decide +kernel) (by decide +kernel)), (hv_in 593 (by decide +kernel) (by decide +kernel)), Or.inl (hv_in 591 (by decide +kernel) (by decide +kernel))⟩ hw rfl rfl (Nat.le_of_ble_eq_true rfl) (hv_ok1 rfl) rfl h (fun v2 s1 h3 => ?_)
  refine T_ishr dJ0_length_8abf5_9 ?_
  exact T_iret dJ0_length_8abf5_10 rfl h3

set_option maxHeartbeats 4000000 in
set_option maxRecDepth 100000 in
theorem B_J1_charAt_3b067 {l : Launch} {E : hv_E} (w : Nat) (hw : w < 7) (x2 : Int32) {σ : hv_S} {Φ : Int32 → hv_S → Prop} (h : hv_CV l E 1 m_J0_checkIndex_df160 [.int x2, .int (Int32.ofNat (hv_len.getD w 0))] (σ) (fun s1 => (vp_in x2 (hv_len.getD w 0) ∧ (narrow .char (.int ((((hv_byt.getD w []).getD x2.toNatClampNeg 0) &&& 255).toUInt32 % 65536).toInt32) = .int ((((hv_byt.getD w []).getD x2.toNatClampNeg 0) &&& 255).toUInt32 % 65536).toInt32 ∧ Φ (((((hv_byt.getD w []).getD x2.toNatClampNeg 0) &&& 255).toUInt32 % 65536).toInt32) s1)))) : hv_CI l E 2 m_J1_charAt_3b067 [.ref (2000 + w), .int x2] σ Φ := by
  refine hv_entI (by decide) (Nat.le_of_ble_eq_true rfl) ?_
  show hv_TW l E (hv_rm 2) 0 0 m_J1_charAt_3b067 hv_no (hv_ZI E Φ) 0 [(0, .ref (2000 + w)), (1, .int x2)] [] σ
  refine T_iload_n dJ1_charAt_3b067_0 rfl 1 rfl ?_
  refine T_aload_n dJ1_charAt_3b067_1 rfl 0 rfl ?_
  refine T_alenS (v := (Int32.ofNat (hv_len.getD w 0))) dJ1_charAt_3b067_2 hw rfl ?_
  refine T_SV (As := [.int x2, .int (Int32.ofNat (hv_len.getD w 0))]) dJ1_charAt_3b067_3 ms_J1_9 rfl (Nat.le_of_ble_eq_true rfl) (hv_ok1 rfl) rfl h (fun s1 h3 => ?_)
  refine T_aload_n dJ1_charAt_3b067_6 rfl 0 rfl ?_
  refine T_iload_n dJ1_charAt_3b067_7 rfl 1 rfl ?_
  refine T_baldS dJ1_charAt_3b067_8 hw h3.1 ?_
  refine T_sipush (v := 255) dJ1_charAt_3b067_9 (by decide) ?_
  refine T_iand dJ1_charAt_3b067_12 ?_
  refine T_i2c dJ1_charAt_3b067_13 ?_
  exact T_xret dJ1_charAt_3b067_14 rfl h3.2.1 h3.2.2

set_option maxHeartbeats 4000000 in
set_option maxRecDepth 100000 in
theorem B_J0_charAt_5068e {l : Launch} {E : hv_E} (w : Nat) (hw : w < 7) (x1 : Int32) {σ : hv_S} {Φ : Int32 → hv_S → Prop} (h : hv_CI l E 0 m_J0_isLatin1_aae02 [.ref (1000 + w)] (σ) (fun v2 s1 => ((v2 = 0 → False) ∧ (¬ v2 = 0 → hv_CI l E 2 m_J1_charAt_3b067 [.ref (2000 + w), .int x1] s1 (fun v5 s4 => (narrow .char (.int v5) = .int v5 ∧ Φ v5 s4)))))) : hv_CI l E 3 m_J0_charAt_5068e [.ref (1000 + w), .int x1] σ Φ := by
  refine hv_entI (by decide) (Nat.le_of_ble_eq_true rfl) ?_
  show hv_TW l E (hv_rm 3) 0 0 m_J0_charAt_5068e hv_no (hv_ZI E Φ) 0 [(0, .ref (1000 + w)), (1, .int x1)] [] σ
  refine T_aload_n dJ0_charAt_5068e_0 rfl 0 rfl ?_
  refine T_VIs (As := []) dJ0_charAt_5068e_1 ⟨mw_J0_isLatin1_aae02, (hv_in 602 (by decide +kernel) (by decide +kernel)), (hv_in 603 (by decide +kernel) (by decide +kernel)), Or.inl (hv_in 601 (by decide +kernel) (by decide +kernel))⟩ hw rfl rfl (Nat.le_of_ble_eq_true rfl) (hv_ok1 rfl) rfl h (fun v2 s1 h3 => ?_)
  refine T_if_eq (tgt := 16) dJ0_charAt_5068e_4 (by decide) (fun c7 => ?_) (fun c7 => ?_)
  · refine T_aload_n dJ0_charAt_5068e_16 rfl 0 rfl ?_
    refine T_getSv dJ0_charAt_5068e_17 hw (hv_in 1587 (by decide +kernel) (by decide +kernel)) ?_
    refine T_iload_n dJ0_charAt_5068e_20 rfl 1 rfl ?_
    exact False.elim (h3.1 c7)
  · refine T_aload_n dJ0_charAt_5068e_7 rfl 0 rfl ?_
    refine T_getSv dJ0_charAt_5068e_8 hw (hv_in 1587 (by decide +kernel) (by decide +kernel)) ?_
    refine T_iload_n dJ0_charAt_5068e_11 rfl 1 rfl ?_
    refine T_SI (As := [.ref (2000 + w), .int x1]) dJ0_charAt_5068e_12 ms_J0_495 rfl (Nat.le_of_ble_eq_true rfl) (hv_ok1 rfl) rfl (h3.2 c7) (fun v5 s4 h6 => ?_)
    exact T_xret dJ0_charAt_5068e_15 rfl h6.1 h6.2

set_option maxHeartbeats 4000000 in
set_option maxRecDepth 100000 in
theorem B_J6_bitCount_0f7a4 {l : Launch} {E : hv_E}  (x1 : Int32) {σ : hv_S} {Φ : Int32 → hv_S → Prop} (h : (∀ z1 : Int32, z1 = (x1 - ((x1.toUInt32 >>> ((1 : Int32).toUInt32 &&& Int32.toUInt32 31)).toInt32 &&& 1431655765)) → (∀ z2 : Int32, z2 = ((z1 &&& 858993459) + ((z1.toUInt32 >>> ((2 : Int32).toUInt32 &&& Int32.toUInt32 31)).toInt32 &&& 858993459)) → (∀ z3 : Int32, z3 = ((z2 + (z2.toUInt32 >>> ((4 : Int32).toUInt32 &&& Int32.toUInt32 31)).toInt32) &&& 252645135) → (∀ z4 : Int32, z4 = (z3 + (z3.toUInt32 >>> ((8 : Int32).toUInt32 &&& Int32.toUInt32 31)).toInt32) → (∀ z5 : Int32, z5 = (z4 + (z4.toUInt32 >>> ((16 : Int32).toUInt32 &&& Int32.toUInt32 31)).toInt32) → Φ (z5 &&& 63) (σ))))))) : hv_CI l E 0 m_J6_bitCount_0f7a4 [.int x1] σ Φ := by
  refine hv_entI (by decide) (Nat.le_of_ble_eq_true rfl) ?_
  show hv_TW l E (hv_rm 0) 0 0 m_J6_bitCount_0f7a4 hv_no (hv_ZI E Φ) 0 [(0, .int x1)] [] σ
  refine T_iload_n dJ6_bitCount_0f7a4_0 rfl 0 rfl ?_
  refine T_iload_n dJ6_bitCount_0f7a4_1 rfl 0 rfl ?_
  refine T_iconst (v := 1) dJ6_bitCount_0f7a4_2 (by decide) ?_
  refine T_iushr dJ6_bitCount_0f7a4_3 ?_
  refine T_ldcw dJ6_bitCount_0f7a4_4 ko_J6_265 ?_
  refine T_iand dJ6_bitCount_0f7a4_7 ?_
  refine T_isub dJ6_bitCount_0f7a4_8 ?_
  refine T_topi (fun z1 ez1 => ?_)
  refine T_istore_n dJ6_bitCount_0f7a4_9 rfl (by decide) rfl ?_
  refine T_iload_n dJ6_bitCount_0f7a4_10 rfl 0 rfl ?_
  refine T_ldcw dJ6_bitCount_0f7a4_11 ko_J6_266 ?_
  refine T_iand dJ6_bitCount_0f7a4_14 ?_
  refine T_iload_n dJ6_bitCount_0f7a4_15 rfl 0 rfl ?_
  refine T_iconst (v := 2) dJ6_bitCount_0f7a4_16 (by decide) ?_
  refine T_iushr dJ6_bitCount_0f7a4_17 ?_
  refine T_ldcw dJ6_bitCount_0f7a4_18 ko_J6_266 ?_
  refine T_iand dJ6_bitCount_0f7a4_21 ?_
  refine T_iadd dJ6_bitCount_0f7a4_22 ?_
  refine T_topi (fun z2 ez2 => ?_)
  refine T_istore_n dJ6_bitCount_0f7a4_23 rfl (by decide) rfl ?_
  refine T_iload_n dJ6_bitCount_0f7a4_24 rfl 0 rfl ?_
  refine T_iload_n dJ6_bitCount_0f7a4_25 rfl 0 rfl ?_
  refine T_iconst (v := 4) dJ6_bitCount_0f7a4_26 (by decide) ?_
  refine T_iushr dJ6_bitCount_0f7a4_27 ?_
  refine T_iadd dJ6_bitCount_0f7a4_28 ?_
  refine T_ldcw dJ6_bitCount_0f7a4_29 ko_J6_267 ?_
  refine T_iand dJ6_bitCount_0f7a4_32 ?_
  refine T_topi (fun z3 ez3 => ?_)
  refine T_istore_n dJ6_bitCount_0f7a4_33 rfl (by decide) rfl ?_
  refine T_iload_n dJ6_bitCount_0f7a4_34 rfl 0 rfl ?_
  refine T_iload_n dJ6_bitCount_0f7a4_35 rfl 0 rfl ?_
  refine T_bipush (v := 8) dJ6_bitCount_0f7a4_36 (by decide) ?_
  refine T_iushr dJ6_bitCount_0f7a4_38 ?_
  refine T_iadd dJ6_bitCount_0f7a4_39 ?_
  refine T_topi (fun z4 ez4 => ?_)
  refine T_istore_n dJ6_bitCount_0f7a4_40 rfl (by decide) rfl ?_
  refine T_iload_n dJ6_bitCount_0f7a4_41 rfl 0 rfl ?_
  refine T_iload_n dJ6_bitCount_0f7a4_42 rfl 0 rfl ?_
  refine T_bipush (v := 16) dJ6_bitCount_0f7a4_43 (by decide) ?_
  refine T_iushr dJ6_bitCount_0f7a4_45 ?_
  refine T_iadd dJ6_bitCount_0f7a4_46 ?_
  refine T_topi (fun z5 ez5 => ?_)
  refine T_istore_n dJ6_bitCount_0f7a4_47 rfl (by decide) rfl ?_
  refine T_iload_n dJ6_bitCount_0f7a4_48 rfl 0 rfl ?_
  refine T_bipush (v := 63) dJ6_bitCount_0f7a4_49 (by decide) ?_
  refine T_iand dJ6_bitCount_0f7a4_51 ?_
  exact T_iret dJ6_bitCount_0f7a4_52 rfl (((((h z1 ez1) z2 ez2) z3 ez3) z4 ez4) z5 ez5)

set_option maxHeartbeats 4000000 in
set_option maxRecDepth 100000 in
theorem B_J9_min_7cf53 {l : Launch} {E : hv_E}  (x1 : Int32) (x2 : Int32) {σ : hv_S} {Φ : Int32 → hv_S → Prop} (h : ((x2 < x1 → Φ x2 (σ)) ∧ (¬ x2 < x1 → Φ x1 (σ)))) : hv_CI l E 0 m_J9_min_7cf53 [.int x1, .int x2] σ Φ := by
  refine hv_entI (by decide) (Nat.le_of_ble_eq_true rfl) ?_
  show hv_TW l E (hv_rm 0) 0 0 m_J9_min_7cf53 hv_no (hv_ZI E Φ) 0 [(0, .int x1), (1, .int x2)] [] σ
  refine T_iload_n dJ9_min_7cf53_0 rfl 0 rfl ?_
  refine T_iload_n dJ9_min_7cf53_1 rfl 1 rfl ?_
  refine T_icmp_gt (tgt := 9) dJ9_min_7cf53_2 (by decide) (fun c1 => ?_) (fun c1 => ?_)
  · refine T_iload_n dJ9_min_7cf53_9 rfl 1 rfl ?_
    exact T_iret dJ9_min_7cf53_10 rfl (h.1 c1)
  · refine T_iload_n dJ9_min_7cf53_5 rfl 0 rfl ?_
    refine T_goto (tgt := 10) dJ9_min_7cf53_6 (by decide) ?_
    exact T_iret dJ9_min_7cf53_10 rfl (h.2 c1)

set_option maxHeartbeats 4000000 in
set_option maxRecDepth 100000 in
theorem B_J9_min_f86c9 {l : Launch} {E : hv_E}  (y1 : Int64) (y2 : Int64) {σ : hv_S} {Φ : Int64 → hv_S → Prop} (h : ((y2 < y1 → Φ y2 (σ)) ∧ (¬ y2 < y1 → Φ y1 (σ)))) : hv_CL l E 0 m_J9_min_f86c9 [.long y1, .long y2] σ Φ := by
  refine hv_entL (by decide) (Nat.le_of_ble_eq_true rfl) ?_
  show hv_TW l E (hv_rm 0) 0 0 m_J9_min_f86c9 hv_no (hv_ZL E Φ) 0 [(0, .long y1), (2, .long y2)] [] σ
  refine T_lload_n dJ9_min_f86c9_0 rfl 0 rfl ?_
  refine T_lload_n dJ9_min_f86c9_1 rfl 1 rfl ?_
  refine T_lc_gt (tgt := 10) dJ9_min_f86c9_2 dJ9_min_f86c9_3 (by decide) (fun c1 => ?_) (fun c1 => ?_)
  · refine T_lload_n dJ9_min_f86c9_10 rfl 1 rfl ?_
    exact T_lret dJ9_min_f86c9_11 rfl (h.1 c1)
  · refine T_lload_n dJ9_min_f86c9_6 rfl 0 rfl ?_
    refine T_goto (tgt := 11) dJ9_min_f86c9_7 (by decide) ?_
    exact T_lret dJ9_min_f86c9_11 rfl (h.2 c1)

set_option maxHeartbeats 4000000 in
set_option maxRecDepth 100000 in
theorem B_J9_max_f86c9 {l : Launch} {E : hv_E}  (y1 : Int64) (y2 : Int64) {σ : hv_S} {Φ : Int64 → hv_S → Prop} (h : ((y1 < y2 → Φ y2 (σ)) ∧ (¬ y1 < y2 → Φ y1 (σ)))) : hv_CL l E 0 m_J9_max_f86c9 [.long y1, .long y2] σ Φ := by
  refine hv_entL (by decide) (Nat.le_of_ble_eq_true rfl) ?_
  show hv_TW l E (hv_rm 0) 0 0 m_J9_max_f86c9 hv_no (hv_ZL E Φ) 0 [(0, .long y1), (2, .long y2)] [] σ
  refine T_lload_n dJ9_max_f86c9_0 rfl 0 rfl ?_
  refine T_lload_n dJ9_max_f86c9_1 rfl 1 rfl ?_
  refine T_lc_lt (tgt := 10) dJ9_max_f86c9_2 dJ9_max_f86c9_3 (by decide) (fun c1 => ?_) (fun c1 => ?_)
  · refine T_lload_n dJ9_max_f86c9_10 rfl 1 rfl ?_
    exact T_lret dJ9_max_f86c9_11 rfl (h.1 c1)
  · refine T_lload_n dJ9_max_f86c9_6 rfl 0 rfl ?_
    refine T_goto (tgt := 11) dJ9_max_f86c9_7 (by decide) ?_
    exact T_lret dJ9_max_f86c9_11 rfl (h.2 c1)

def L_J7_fill_53178_5 (l : Launch) (E : hv_E) (p : Nat) (n : Nat) (Φ : hv_S → Prop) (x1 : Int32) (x2 : Int32) (x3 : Int32) (σ : hv_S) : Prop := hv_TW l E (hv_rm 0) 0 0 m_J7_fill_53178 hv_no (hv_ZV E Φ) 5 [(0, .ref p), (1, .int x1), (2, .int x2), (3, .int x3)] [] σ
set_option maxHeartbeats 4000000 in
set_option maxRecDepth 100000 in
theorem B_J7_fill_53178_5 {l : Launch} {E : hv_E} (p : Nat) (n : Nat) (hp : p ∈ hv_pl E) (hs : hv_sh E p = .inr (0, n)) (x1 : Int32) (x2 : Int32) (x3 : Int32) {σ : hv_S} {Φ : hv_S → Prop} (h : ((x3 ≤ x2 → Φ (σ)) ∧ (¬ x3 ≤ x2 → (vp_in x2 n ∧ L_J7_fill_53178_5 l E p n Φ x1 (x2 + 1) x3 (hv_ui (σ) p x2.toNatClampNeg x1))))) : L_J7_fill_53178_5 l E p n Φ x1 x2 x3 σ := by
  show hv_TW l E (hv_rm 0) 0 0 m_J7_fill_53178 hv_no (hv_ZV E Φ) 5 [(0, .ref p), (1, .int x1), (2, .int x2), (3, .int x3)] [] σ
  refine T_iload_n dJ7_fill_53178_5 rfl 2 rfl ?_
  refine T_iload_n dJ7_fill_53178_6 rfl 3 rfl ?_
  refine T_icmp_ge (tgt := 20) dJ7_fill_53178_7 (by decide) (fun c1 => ?_) (fun c1 => ?_)
  · exact T_vret dJ7_fill_53178_20 rfl (h.1 c1)
  · refine T_aload_n dJ7_fill_53178_10 rfl 0 rfl ?_
    refine T_iload_n dJ7_fill_53178_11 rfl 2 rfl ?_
    refine T_iload_n dJ7_fill_53178_12 rfl 1 rfl ?_
    refine T_iast dJ7_fill_53178_13 hp hs (h.2 c1).1 ?_
    refine T_iinc (v := (x2 + 1)) dJ7_fill_53178_14 2 rfl rfl (by decide) rfl ?_
    refine T_goto (tgt := 5) dJ7_fill_53178_17 (by decide) ?_
    exact T_sub [1, 2, 0, 3] rfl (h.2 c1).2
set_option maxHeartbeats 4000000 in
set_option maxRecDepth 100000 in
theorem B_J7_fill_53178 {l : Launch} {E : hv_E} (p : Nat) (n : Nat) (hp : p ∈ hv_pl E) (hs : hv_sh E p = .inr (0, n)) (x2 : Int32) {σ : hv_S} {Φ : hv_S → Prop} (h : L_J7_fill_53178_5 l E p n Φ x2 0 (Int32.ofNat n) (σ)) : hv_CV l E 0 m_J7_fill_53178 [.ref p, .int x2] σ Φ := by
  refine hv_entV (by decide) (Nat.le_of_ble_eq_true rfl) ?_
  show hv_TW l E (hv_rm 0) 0 0 m_J7_fill_53178 hv_no (hv_ZV E Φ) 0 [(0, .ref p), (1, .int x2)] [] σ
  refine T_iconst (v := 0) dJ7_fill_53178_0 (by decide) ?_
  refine T_istore_n dJ7_fill_53178_1 rfl (by decide) rfl ?_
  refine T_aload_n dJ7_fill_53178_2 rfl 1 rfl ?_
  refine T_alen (v := (Int32.ofNat n)) dJ7_fill_53178_3 hp hs (by decide) rfl ?_
  refine T_istore_n dJ7_fill_53178_4 rfl (by decide) rfl ?_
  exact T_sub [2, 3, 1, 0] rfl h

def L_J7_fill_d0a16_6 (l : Launch) (E : hv_E) (p : Nat) (n : Nat) (Φ : hv_S → Prop) (y1 : Int64) (x3 : Int32) (x4 : Int32) (σ : hv_S) : Prop := hv_TW l E (hv_rm 0) 0 0 m_J7_fill_d0a16 hv_no (hv_ZV E Φ) 6 [(0, .ref p), (1, .long y1), (3, .int x3), (4, .int x4)] [] σ
set_option maxHeartbeats 4000000 in
set_option maxRecDepth 100000 in
theorem B_J7_fill_d0a16_6 {l : Launch} {E : hv_E} (p : Nat) (n : Nat) (hp : p ∈ hv_pl E) (hs : hv_sh E p = .inr (1, n)) (y1 : Int64) (x3 : Int32) (x4 : Int32) {σ : hv_S} {Φ : hv_S → Prop} (h : ((x4 ≤ x3 → Φ (σ)) ∧ (¬ x4 ≤ x3 → (vp_in x3 n ∧ L_J7_fill_d0a16_6 l E p n Φ y1 (x3 + 1) x4 (hv_ul (σ) p x3.toNatClampNeg y1))))) : L_J7_fill_d0a16_6 l E p n Φ y1 x3 x4 σ := by
  show hv_TW l E (hv_rm 0) 0 0 m_J7_fill_d0a16 hv_no (hv_ZV E Φ) 6 [(0, .ref p), (1, .long y1), (3, .int x3), (4, .int x4)] [] σ
  refine T_iload_n dJ7_fill_d0a16_6 rfl 2 rfl ?_
  refine T_iload dJ7_fill_d0a16_7 3 rfl ?_
  refine T_icmp_ge (tgt := 22) dJ7_fill_d0a16_9 (by decide) (fun c1 => ?_) (fun c1 => ?_)
  · exact T_vret dJ7_fill_d0a16_22 rfl (h.1 c1)
  · refine T_aload_n dJ7_fill_d0a16_12 rfl 0 rfl ?_
    refine T_iload_n dJ7_fill_d0a16_13 rfl 2 rfl ?_
    refine T_lload_n dJ7_fill_d0a16_14 rfl 1 rfl ?_
    refine T_last dJ7_fill_d0a16_15 hp hs (h.2 c1).1 ?_
    refine T_iinc (v := (x3 + 1)) dJ7_fill_d0a16_16 2 rfl rfl (by decide) rfl ?_
    refine T_goto (tgt := 6) dJ7_fill_d0a16_19 (by decide) ?_
    exact T_sub [1, 2, 0, 3] rfl (h.2 c1).2
set_option maxHeartbeats 4000000 in
set_option maxRecDepth 100000 in
theorem B_J7_fill_d0a16 {l : Launch} {E : hv_E} (p : Nat) (n : Nat) (hp : p ∈ hv_pl E) (hs : hv_sh E p = .inr (1, n)) (y2 : Int64) {σ : hv_S} {Φ : hv_S → Prop} (h : L_J7_fill_d0a16_6 l E p n Φ y2 0 (Int32.ofNat n) (σ)) : hv_CV l E 0 m_J7_fill_d0a16 [.ref p, .long y2] σ Φ := by
  refine hv_entV (by decide) (Nat.le_of_ble_eq_true rfl) ?_
  show hv_TW l E (hv_rm 0) 0 0 m_J7_fill_d0a16 hv_no (hv_ZV E Φ) 0 [(0, .ref p), (1, .long y2)] [] σ
  refine T_iconst (v := 0) dJ7_fill_d0a16_0 (by decide) ?_
  refine T_istore_n dJ7_fill_d0a16_1 rfl (by decide) rfl ?_
  refine T_aload_n dJ7_fill_d0a16_2 rfl 1 rfl ?_
  refine T_alen (v := (Int32.ofNat n)) dJ7_fill_d0a16_3 hp hs (by decide) rfl ?_
  refine T_istore dJ7_fill_d0a16_4 (by decide) rfl ?_
  exact T_sub [2, 3, 1, 0] rfl h
end
