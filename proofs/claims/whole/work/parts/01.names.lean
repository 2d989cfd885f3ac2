-- ===== PART A: goes FIRST, ahead of the names: the tables' words, and 'selects' of the private methods out of them =====
/-- a private method of a class that the tables say can be made, by its rows of tables_1 -/
def lw_okq (q : MethodName × Nat) : Prop := (q.1.cls ≠ "java/lang/invoke/MethodHandle" ∧ q.1.cls ≠ "java/lang/invoke/VarHandle") ∧ Cond.instantiable q.1.cls q.2 ∈ tables_1 ∧ Cond.privateMethod q.1 ∈ tables_1 ∧ Cond.instanceMethod q.1 ∈ tables_1
theorem lw_p0 : lw_okq (⟨"QuotedRiver$Tape", "append", "(I)V"⟩, 2) := ⟨⟨by decide +kernel, by decide +kernel⟩, List.mem_of_getElem? (i := 27) (by decide +kernel), List.mem_of_getElem? (i := 384) (by decide +kernel), List.mem_of_getElem? (i := 385) (by decide +kernel)⟩
theorem lw_p1 : lw_okq (⟨"QuotedRiver$Reader", "read", "(LQuotedRiver$Tape;)V"⟩, 6) := ⟨⟨by decide +kernel, by decide +kernel⟩, List.mem_of_getElem? (i := 43) (by decide +kernel), List.mem_of_getElem? (i := 399) (by decide +kernel), List.mem_of_getElem? (i := 400) (by decide +kernel)⟩
theorem lw_p2 : lw_okq (⟨"QuotedRiver$Tokens", "scan", "(LQuotedRiver$Tape;)V"⟩, 4) := ⟨⟨by decide +kernel, by decide +kernel⟩, List.mem_of_getElem? (i := 49) (by decide +kernel), List.mem_of_getElem? (i := 403) (by decide +kernel), List.mem_of_getElem? (i := 404) (by decide +kernel)⟩
theorem lw_p3 : lw_okq (⟨"QuotedRiver$Tape", "byteAt", "(I)I"⟩, 2) := ⟨⟨by decide +kernel, by decide +kernel⟩, List.mem_of_getElem? (i := 27) (by decide +kernel), List.mem_of_getElem? (i := 407) (by decide +kernel), List.mem_of_getElem? (i := 408) (by decide +kernel)⟩
theorem lw_p4 : lw_okq (⟨"QuotedRiver$Tokens", "scanToken", "(LQuotedRiver$Tape;I)I"⟩, 4) := ⟨⟨by decide +kernel, by decide +kernel⟩, List.mem_of_getElem? (i := 49) (by decide +kernel), List.mem_of_getElem? (i := 414) (by decide +kernel), List.mem_of_getElem? (i := 415) (by decide +kernel)⟩
theorem lw_p5 : lw_okq (⟨"QuotedRiver$Tape", "says", "(Ljava/lang/String;I)Z"⟩, 2) := ⟨⟨by decide +kernel, by decide +kernel⟩, List.mem_of_getElem? (i := 27) (by decide +kernel), List.mem_of_getElem? (i := 425) (by decide +kernel), List.mem_of_getElem? (i := 426) (by decide +kernel)⟩
theorem lw_p6 : lw_okq (⟨"QuotedRiver$Tokens", "add", "(III)V"⟩, 4) := ⟨⟨by decide +kernel, by decide +kernel⟩, List.mem_of_getElem? (i := 49) (by decide +kernel), List.mem_of_getElem? (i := 490) (by decide +kernel), List.mem_of_getElem? (i := 491) (by decide +kernel)⟩
theorem lw_p7 : lw_okq (⟨"QuotedRiver$Rivers", "clear", "()V"⟩, 20) := ⟨⟨by decide +kernel, by decide +kernel⟩, List.mem_of_getElem? (i := 71) (by decide +kernel), List.mem_of_getElem? (i := 504) (by decide +kernel), List.mem_of_getElem? (i := 505) (by decide +kernel)⟩
theorem lw_p8 : lw_okq (⟨"QuotedRiver$Reader", "readRivers", "()V"⟩, 6) := ⟨⟨by decide +kernel, by decide +kernel⟩, List.mem_of_getElem? (i := 43) (by decide +kernel), List.mem_of_getElem? (i := 511) (by decide +kernel), List.mem_of_getElem? (i := 512) (by decide +kernel)⟩
theorem lw_p9 : lw_okq (⟨"QuotedRiver$Reader", "take", "(I)V"⟩, 6) := ⟨⟨by decide +kernel, by decide +kernel⟩, List.mem_of_getElem? (i := 43) (by decide +kernel), List.mem_of_getElem? (i := 515) (by decide +kernel), List.mem_of_getElem? (i := 516) (by decide +kernel)⟩
theorem lw_p10 : lw_okq (⟨"QuotedRiver$Reader", "blame", "(I)V"⟩, 6) := ⟨⟨by decide +kernel, by decide +kernel⟩, List.mem_of_getElem? (i := 43) (by decide +kernel), List.mem_of_getElem? (i := 519) (by decide +kernel), List.mem_of_getElem? (i := 520) (by decide +kernel)⟩
theorem lw_p11 : lw_okq (⟨"QuotedRiver$Reader", "takeNumber", "(III)I"⟩, 6) := ⟨⟨by decide +kernel, by decide +kernel⟩, List.mem_of_getElem? (i := 43) (by decide +kernel), List.mem_of_getElem? (i := 523) (by decide +kernel), List.mem_of_getElem? (i := 524) (by decide +kernel)⟩
theorem lw_p12 : lw_okq (⟨"QuotedRiver$Reader", "takeValue", "(II)I"⟩, 6) := ⟨⟨by decide +kernel, by decide +kernel⟩, List.mem_of_getElem? (i := 43) (by decide +kernel), List.mem_of_getElem? (i := 527) (by decide +kernel), List.mem_of_getElem? (i := 528) (by decide +kernel)⟩
theorem lw_p13 : lw_okq (⟨"QuotedRiver$Reader", "readReach", "()V"⟩, 6) := ⟨⟨by decide +kernel, by decide +kernel⟩, List.mem_of_getElem? (i := 43) (by decide +kernel), List.mem_of_getElem? (i := 531) (by decide +kernel), List.mem_of_getElem? (i := 532) (by decide +kernel)⟩
theorem lw_p14 : lw_okq (⟨"QuotedRiver$Reader", "claim", "(II)I"⟩, 6) := ⟨⟨by decide +kernel, by decide +kernel⟩, List.mem_of_getElem? (i := 43) (by decide +kernel), List.mem_of_getElem? (i := 535) (by decide +kernel), List.mem_of_getElem? (i := 536) (by decide +kernel)⟩
theorem lw_p15 : lw_okq (⟨"QuotedRiver$Reader", "readJoin", "()V"⟩, 6) := ⟨⟨by decide +kernel, by decide +kernel⟩, List.mem_of_getElem? (i := 43) (by decide +kernel), List.mem_of_getElem? (i := 541) (by decide +kernel), List.mem_of_getElem? (i := 542) (by decide +kernel)⟩
def lw_privs_1 : List (MethodName × Nat) := [(⟨"QuotedRiver$Tape", "append", "(I)V"⟩, 2), (⟨"QuotedRiver$Reader", "read", "(LQuotedRiver$Tape;)V"⟩, 6), (⟨"QuotedRiver$Tokens", "scan", "(LQuotedRiver$Tape;)V"⟩, 4), (⟨"QuotedRiver$Tape", "byteAt", "(I)I"⟩, 2), (⟨"QuotedRiver$Tokens", "scanToken", "(LQuotedRiver$Tape;I)I"⟩, 4), (⟨"QuotedRiver$Tape", "says", "(Ljava/lang/String;I)Z"⟩, 2), (⟨"QuotedRiver$Tokens", "add", "(III)V"⟩, 4), (⟨"QuotedRiver$Rivers", "clear", "()V"⟩, 20), (⟨"QuotedRiver$Reader", "readRivers", "()V"⟩, 6), (⟨"QuotedRiver$Reader", "take", "(I)V"⟩, 6), (⟨"QuotedRiver$Reader", "blame", "(I)V"⟩, 6), (⟨"QuotedRiver$Reader", "takeNumber", "(III)I"⟩, 6), (⟨"QuotedRiver$Reader", "takeValue", "(II)I"⟩, 6), (⟨"QuotedRiver$Reader", "readReach", "()V"⟩, 6), (⟨"QuotedRiver$Reader", "claim", "(II)I"⟩, 6), (⟨"QuotedRiver$Reader", "readJoin", "()V"⟩, 6)]
theorem lw_r1 : ∀ q ∈ lw_privs_1, lw_okq q := List.forall_mem_cons.mpr ⟨lw_p0, List.forall_mem_cons.mpr ⟨lw_p1, List.forall_mem_cons.mpr ⟨lw_p2, List.forall_mem_cons.mpr ⟨lw_p3, List.forall_mem_cons.mpr ⟨lw_p4, List.forall_mem_cons.mpr ⟨lw_p5, List.forall_mem_cons.mpr ⟨lw_p6, List.forall_mem_cons.mpr ⟨lw_p7, List.forall_mem_cons.mpr ⟨lw_p8, List.forall_mem_cons.mpr ⟨lw_p9, List.forall_mem_cons.mpr ⟨lw_p10, List.forall_mem_cons.mpr ⟨lw_p11, List.forall_mem_cons.mpr ⟨lw_p12, List.forall_mem_cons.mpr ⟨lw_p13, List.forall_mem_cons.mpr ⟨lw_p14, List.forall_mem_cons.mpr ⟨lw_p15, fun _ h => absurd h List.not_mem_nil⟩⟩⟩⟩⟩⟩⟩⟩⟩⟩⟩⟩⟩⟩⟩⟩
theorem lw_p16 : lw_okq (⟨"QuotedRiver$Reader", "readRain", "()V"⟩, 6) := ⟨⟨by decide +kernel, by decide +kernel⟩, List.mem_of_getElem? (i := 43) (by decide +kernel), List.mem_of_getElem? (i := 545) (by decide +kernel), List.mem_of_getElem? (i := 546) (by decide +kernel)⟩
theorem lw_p17 : lw_okq (⟨"QuotedRiver$Rivers", "sendToSea", "()V"⟩, 20) := ⟨⟨by decide +kernel, by decide +kernel⟩, List.mem_of_getElem? (i := 71) (by decide +kernel), List.mem_of_getElem? (i := 549) (by decide +kernel), List.mem_of_getElem? (i := 550) (by decide +kernel)⟩
theorem lw_p18 : lw_okq (⟨"QuotedRiver$Rivers", "become", "(LQuotedRiver$Rivers;)V"⟩, 20) := ⟨⟨by decide +kernel, by decide +kernel⟩, List.mem_of_getElem? (i := 71) (by decide +kernel), List.mem_of_getElem? (i := 555) (by decide +kernel), List.mem_of_getElem? (i := 556) (by decide +kernel)⟩
theorem lw_p19 : lw_okq (⟨"QuotedRiver$Water", "settle", "(LQuotedRiver$Rivers;)V"⟩, 3) := ⟨⟨by decide +kernel, by decide +kernel⟩, List.mem_of_getElem? (i := 210) (by decide +kernel), List.mem_of_getElem? (i := 562) (by decide +kernel), List.mem_of_getElem? (i := 563) (by decide +kernel)⟩
theorem lw_p20 : lw_okq (⟨"QuotedRiver$Water", "addRain", "(II)V"⟩, 3) := ⟨⟨by decide +kernel, by decide +kernel⟩, List.mem_of_getElem? (i := 210) (by decide +kernel), List.mem_of_getElem? (i := 568) (by decide +kernel), List.mem_of_getElem? (i := 569) (by decide +kernel)⟩
theorem lw_p21 : lw_okq (⟨"QuotedRiver$Water", "redo", "(III)V"⟩, 3) := ⟨⟨by decide +kernel, by decide +kernel⟩, List.mem_of_getElem? (i := 210) (by decide +kernel), List.mem_of_getElem? (i := 572) (by decide +kernel), List.mem_of_getElem? (i := 573) (by decide +kernel)⟩
theorem lw_p22 : lw_okq (⟨"QuotedRiver$Water", "fall", "(I)V"⟩, 3) := ⟨⟨by decide +kernel, by decide +kernel⟩, List.mem_of_getElem? (i := 210) (by decide +kernel), List.mem_of_getElem? (i := 579) (by decide +kernel), List.mem_of_getElem? (i := 580) (by decide +kernel)⟩
theorem lw_p23 : lw_okq (⟨"QuotedRiver$Water", "rainAt", "(I)I"⟩, 3) := ⟨⟨by decide +kernel, by decide +kernel⟩, List.mem_of_getElem? (i := 210) (by decide +kernel), List.mem_of_getElem? (i := 583) (by decide +kernel), List.mem_of_getElem? (i := 584) (by decide +kernel)⟩
theorem lw_p24 : lw_okq (⟨"QuotedRiver$Rivers", "lines", "()I"⟩, 20) := ⟨⟨by decide +kernel, by decide +kernel⟩, List.mem_of_getElem? (i := 71) (by decide +kernel), List.mem_of_getElem? (i := 590) (by decide +kernel), List.mem_of_getElem? (i := 591) (by decide +kernel)⟩
theorem lw_p25 : lw_okq (⟨"QuotedRiver", "isReach", "(I)Z"⟩, 14) := ⟨⟨by decide +kernel, by decide +kernel⟩, List.mem_of_getElem? (i := 19) (by decide +kernel), List.mem_of_getElem? (i := 603) (by decide +kernel), List.mem_of_getElem? (i := 604) (by decide +kernel)⟩
theorem lw_p26 : lw_okq (⟨"QuotedRiver", "isJoin", "(I)Z"⟩, 14) := ⟨⟨by decide +kernel, by decide +kernel⟩, List.mem_of_getElem? (i := 19) (by decide +kernel), List.mem_of_getElem? (i := 612) (by decide +kernel), List.mem_of_getElem? (i := 613) (by decide +kernel)⟩
theorem lw_p27 : lw_okq (⟨"QuotedRiver", "hasStep", "(I)Z"⟩, 14) := ⟨⟨by decide +kernel, by decide +kernel⟩, List.mem_of_getElem? (i := 19) (by decide +kernel), List.mem_of_getElem? (i := 624) (by decide +kernel), List.mem_of_getElem? (i := 625) (by decide +kernel)⟩
theorem lw_p28 : lw_okq (⟨"QuotedRiver$Water", "levelAt", "(I)I"⟩, 3) := ⟨⟨by decide +kernel, by decide +kernel⟩, List.mem_of_getElem? (i := 210) (by decide +kernel), List.mem_of_getElem? (i := 631) (by decide +kernel), List.mem_of_getElem? (i := 632) (by decide +kernel)⟩
theorem lw_p29 : lw_okq (⟨"QuotedRiver", "standing", "(I)I"⟩, 14) := ⟨⟨by decide +kernel, by decide +kernel⟩, List.mem_of_getElem? (i := 19) (by decide +kernel), List.mem_of_getElem? (i := 639) (by decide +kernel), List.mem_of_getElem? (i := 640) (by decide +kernel)⟩
theorem lw_p30 : lw_okq (⟨"QuotedRiver", "isStanding", "(II)Z"⟩, 14) := ⟨⟨by decide +kernel, by decide +kernel⟩, List.mem_of_getElem? (i := 19) (by decide +kernel), List.mem_of_getElem? (i := 643) (by decide +kernel), List.mem_of_getElem? (i := 644) (by decide +kernel)⟩
theorem lw_p31 : lw_okq (⟨"QuotedRiver", "allReaches", "()I"⟩, 14) := ⟨⟨by decide +kernel, by decide +kernel⟩, List.mem_of_getElem? (i := 19) (by decide +kernel), List.mem_of_getElem? (i := 652) (by decide +kernel), List.mem_of_getElem? (i := 653) (by decide +kernel)⟩
def lw_privs_2 : List (MethodName × Nat) := [(⟨"QuotedRiver$Reader", "readRain", "()V"⟩, 6), (⟨"QuotedRiver$Rivers", "sendToSea", "()V"⟩, 20), (⟨"QuotedRiver$Rivers", "become", "(LQuotedRiver$Rivers;)V"⟩, 20), (⟨"QuotedRiver$Water", "settle", "(LQuotedRiver$Rivers;)V"⟩, 3), (⟨"QuotedRiver$Water", "addRain", "(II)V"⟩, 3), (⟨"QuotedRiver$Water", "redo", "(III)V"⟩, 3), (⟨"QuotedRiver$Water", "fall", "(I)V"⟩, 3), (⟨"QuotedRiver$Water", "rainAt", "(I)I"⟩, 3), (⟨"QuotedRiver$Rivers", "lines", "()I"⟩, 20), (⟨"QuotedRiver", "isReach", "(I)Z"⟩, 14), (⟨"QuotedRiver", "isJoin", "(I)Z"⟩, 14), (⟨"QuotedRiver", "hasStep", "(I)Z"⟩, 14), (⟨"QuotedRiver$Water", "levelAt", "(I)I"⟩, 3), (⟨"QuotedRiver", "standing", "(I)I"⟩, 14), (⟨"QuotedRiver", "isStanding", "(II)Z"⟩, 14), (⟨"QuotedRiver", "allReaches", "()I"⟩, 14)]
theorem lw_r2 : ∀ q ∈ lw_privs_2, lw_okq q := List.forall_mem_cons.mpr ⟨lw_p16, List.forall_mem_cons.mpr ⟨lw_p17, List.forall_mem_cons.mpr ⟨lw_p18, List.forall_mem_cons.mpr ⟨lw_p19, List.forall_mem_cons.mpr ⟨lw_p20, List.forall_mem_cons.mpr ⟨lw_p21, List.forall_mem_cons.mpr ⟨lw_p22, List.forall_mem_cons.mpr ⟨lw_p23, List.forall_mem_cons.mpr ⟨lw_p24, List.forall_mem_cons.mpr ⟨lw_p25, List.forall_mem_cons.mpr ⟨lw_p26, List.forall_mem_cons.mpr ⟨lw_p27, List.forall_mem_cons.mpr ⟨lw_p28, List.forall_mem_cons.mpr ⟨lw_p29, List.forall_mem_cons.mpr ⟨lw_p30, List.forall_mem_cons.mpr ⟨lw_p31, fun _ h => absurd h List.not_mem_nil⟩⟩⟩⟩⟩⟩⟩⟩⟩⟩⟩⟩⟩⟩⟩⟩
theorem lw_p32 : lw_okq (⟨"QuotedRiver", "leastStep", "()I"⟩, 14) := ⟨⟨by decide +kernel, by decide +kernel⟩, List.mem_of_getElem? (i := 19) (by decide +kernel), List.mem_of_getElem? (i := 678) (by decide +kernel), List.mem_of_getElem? (i := 679) (by decide +kernel)⟩
theorem lw_p33 : lw_okq (⟨"QuotedRiver", "putIn", "(II)Z"⟩, 14) := ⟨⟨by decide +kernel, by decide +kernel⟩, List.mem_of_getElem? (i := 19) (by decide +kernel), List.mem_of_getElem? (i := 691) (by decide +kernel), List.mem_of_getElem? (i := 692) (by decide +kernel)⟩
theorem lw_p34 : lw_okq (⟨"QuotedRiver$Stick", "drift", "(LQuotedRiver$Rivers;LQuotedRiver$Water;II)V"⟩, 9) := ⟨⟨by decide +kernel, by decide +kernel⟩, List.mem_of_getElem? (i := 228) (by decide +kernel), List.mem_of_getElem? (i := 695) (by decide +kernel), List.mem_of_getElem? (i := 696) (by decide +kernel)⟩
theorem lw_p35 : lw_okq (⟨"QuotedRiver$Stick", "forget", "(I)V"⟩, 9) := ⟨⟨by decide +kernel, by decide +kernel⟩, List.mem_of_getElem? (i := 228) (by decide +kernel), List.mem_of_getElem? (i := 699) (by decide +kernel), List.mem_of_getElem? (i := 700) (by decide +kernel)⟩
theorem lw_p36 : lw_okq (⟨"QuotedRiver$Stick", "depart", "(LQuotedRiver$Rivers;III)I"⟩, 9) := ⟨⟨by decide +kernel, by decide +kernel⟩, List.mem_of_getElem? (i := 228) (by decide +kernel), List.mem_of_getElem? (i := 707) (by decide +kernel), List.mem_of_getElem? (i := 708) (by decide +kernel)⟩
theorem lw_p37 : lw_okq (⟨"QuotedRiver$Rivers", "takesTurn", "(II)Z"⟩, 20) := ⟨⟨by decide +kernel, by decide +kernel⟩, List.mem_of_getElem? (i := 71) (by decide +kernel), List.mem_of_getElem? (i := 711) (by decide +kernel), List.mem_of_getElem? (i := 712) (by decide +kernel)⟩
theorem lw_p38 : lw_okq (⟨"QuotedRiver$Stick", "arrive", "(II)V"⟩, 9) := ⟨⟨by decide +kernel, by decide +kernel⟩, List.mem_of_getElem? (i := 228) (by decide +kernel), List.mem_of_getElem? (i := 715) (by decide +kernel), List.mem_of_getElem? (i := 716) (by decide +kernel)⟩
theorem lw_p39 : lw_okq (⟨"QuotedRiver$Stick", "spotAt", "(I)I"⟩, 9) := ⟨⟨by decide +kernel, by decide +kernel⟩, List.mem_of_getElem? (i := 228) (by decide +kernel), List.mem_of_getElem? (i := 719) (by decide +kernel), List.mem_of_getElem? (i := 720) (by decide +kernel)⟩
theorem lw_p40 : lw_okq (⟨"QuotedRiver$Stick", "firstIn", "(I)I"⟩, 9) := ⟨⟨by decide +kernel, by decide +kernel⟩, List.mem_of_getElem? (i := 228) (by decide +kernel), List.mem_of_getElem? (i := 731) (by decide +kernel), List.mem_of_getElem? (i := 732) (by decide +kernel)⟩
theorem lw_p41 : lw_okq (⟨"QuotedRiver", "putBothIn", "(II)Z"⟩, 14) := ⟨⟨by decide +kernel, by decide +kernel⟩, List.mem_of_getElem? (i := 19) (by decide +kernel), List.mem_of_getElem? (i := 780) (by decide +kernel), List.mem_of_getElem? (i := 781) (by decide +kernel)⟩
theorem lw_p42 : lw_okq (⟨"QuotedRiver", "shareReach", "(I)Z"⟩, 14) := ⟨⟨by decide +kernel, by decide +kernel⟩, List.mem_of_getElem? (i := 19) (by decide +kernel), List.mem_of_getElem? (i := 784) (by decide +kernel), List.mem_of_getElem? (i := 785) (by decide +kernel)⟩
theorem lw_p43 : lw_okq (⟨"QuotedRiver", "isInRing", "(I)Z"⟩, 14) := ⟨⟨by decide +kernel, by decide +kernel⟩, List.mem_of_getElem? (i := 19) (by decide +kernel), List.mem_of_getElem? (i := 813) (by decide +kernel), List.mem_of_getElem? (i := 814) (by decide +kernel)⟩
theorem lw_p44 : lw_okq (⟨"QuotedRiver", "coming", "(III)I"⟩, 14) := ⟨⟨by decide +kernel, by decide +kernel⟩, List.mem_of_getElem? (i := 19) (by decide +kernel), List.mem_of_getElem? (i := 830) (by decide +kernel), List.mem_of_getElem? (i := 831) (by decide +kernel)⟩
theorem lw_p45 : lw_okq (⟨"QuotedRiver", "quickestStep", "(II)I"⟩, 14) := ⟨⟨by decide +kernel, by decide +kernel⟩, List.mem_of_getElem? (i := 19) (by decide +kernel), List.mem_of_getElem? (i := 842) (by decide +kernel), List.mem_of_getElem? (i := 843) (by decide +kernel)⟩
theorem lw_p46 : lw_okq (⟨"QuotedRiver", "stoppingSet", "(II)I"⟩, 14) := ⟨⟨by decide +kernel, by decide +kernel⟩, List.mem_of_getElem? (i := 19) (by decide +kernel), List.mem_of_getElem? (i := 862) (by decide +kernel), List.mem_of_getElem? (i := 863) (by decide +kernel)⟩
theorem lw_p47 : lw_okq (⟨"QuotedRiver", "noteWays", "(II)I"⟩, 14) := ⟨⟨by decide +kernel, by decide +kernel⟩, List.mem_of_getElem? (i := 19) (by decide +kernel), List.mem_of_getElem? (i := 866) (by decide +kernel), List.mem_of_getElem? (i := 867) (by decide +kernel)⟩
def lw_privs_3 : List (MethodName × Nat) := [(⟨"QuotedRiver", "leastStep", "()I"⟩, 14), (⟨"QuotedRiver", "putIn", "(II)Z"⟩, 14), (⟨"QuotedRiver$Stick", "drift", "(LQuotedRiver$Rivers;LQuotedRiver$Water;II)V"⟩, 9), (⟨"QuotedRiver$Stick", "forget", "(I)V"⟩, 9), (⟨"QuotedRiver$Stick", "depart", "(LQuotedRiver$Rivers;III)I"⟩, 9), (⟨"QuotedRiver$Rivers", "takesTurn", "(II)Z"⟩, 20), (⟨"QuotedRiver$Stick", "arrive", "(II)V"⟩, 9), (⟨"QuotedRiver$Stick", "spotAt", "(I)I"⟩, 9), (⟨"QuotedRiver$Stick", "firstIn", "(I)I"⟩, 9), (⟨"QuotedRiver", "putBothIn", "(II)Z"⟩, 14), (⟨"QuotedRiver", "shareReach", "(I)Z"⟩, 14), (⟨"QuotedRiver", "isInRing", "(I)Z"⟩, 14), (⟨"QuotedRiver", "coming", "(III)I"⟩, 14), (⟨"QuotedRiver", "quickestStep", "(II)I"⟩, 14), (⟨"QuotedRiver", "stoppingSet", "(II)I"⟩, 14), (⟨"QuotedRiver", "noteWays", "(II)I"⟩, 14)]
theorem lw_r3 : ∀ q ∈ lw_privs_3, lw_okq q := List.forall_mem_cons.mpr ⟨lw_p32, List.forall_mem_cons.mpr ⟨lw_p33, List.forall_mem_cons.mpr ⟨lw_p34, List.forall_mem_cons.mpr ⟨lw_p35, List.forall_mem_cons.mpr ⟨lw_p36, List.forall_mem_cons.mpr ⟨lw_p37, List.forall_mem_cons.mpr ⟨lw_p38, List.forall_mem_cons.mpr ⟨lw_p39, List.forall_mem_cons.mpr ⟨lw_p40, List.forall_mem_cons.mpr ⟨lw_p41, List.forall_mem_cons.mpr ⟨lw_p42, List.forall_mem_cons.mpr ⟨lw_p43, List.forall_mem_cons.mpr ⟨lw_p44, List.forall_mem_cons.mpr ⟨lw_p45, List.forall_mem_cons.mpr ⟨lw_p46, List.forall_mem_cons.mpr ⟨lw_p47, fun _ h => absurd h List.not_mem_nil⟩⟩⟩⟩⟩⟩⟩⟩⟩⟩⟩⟩⟩⟩⟩⟩
theorem lw_p48 : lw_okq (⟨"QuotedRiver$Stick", "visitedAhead", "(II)I"⟩, 9) := ⟨⟨by decide +kernel, by decide +kernel⟩, List.mem_of_getElem? (i := 228) (by decide +kernel), List.mem_of_getElem? (i := 870) (by decide +kernel), List.mem_of_getElem? (i := 871) (by decide +kernel)⟩
theorem lw_p49 : lw_okq (⟨"QuotedRiver", "cutsAll", "(II)Z"⟩, 14) := ⟨⟨by decide +kernel, by decide +kernel⟩, List.mem_of_getElem? (i := 19) (by decide +kernel), List.mem_of_getElem? (i := 880) (by decide +kernel), List.mem_of_getElem? (i := 881) (by decide +kernel)⟩
theorem lw_p50 : lw_okq (⟨"QuotedRiver$Water", "become", "(LQuotedRiver$Water;)V"⟩, 3) := ⟨⟨by decide +kernel, by decide +kernel⟩, List.mem_of_getElem? (i := 210) (by decide +kernel), List.mem_of_getElem? (i := 892) (by decide +kernel), List.mem_of_getElem? (i := 893) (by decide +kernel)⟩
theorem lw_p51 : lw_okq (⟨"QuotedRiver", "refuseSeen", "(I)I"⟩, 14) := ⟨⟨by decide +kernel, by decide +kernel⟩, List.mem_of_getElem? (i := 19) (by decide +kernel), List.mem_of_getElem? (i := 907) (by decide +kernel), List.mem_of_getElem? (i := 908) (by decide +kernel)⟩
theorem lw_p52 : lw_okq (⟨"QuotedRiver", "rowOf", "(I)LQuotedRiver$Row;"⟩, 14) := ⟨⟨by decide +kernel, by decide +kernel⟩, List.mem_of_getElem? (i := 19) (by decide +kernel), List.mem_of_getElem? (i := 911) (by decide +kernel), List.mem_of_getElem? (i := 912) (by decide +kernel)⟩
theorem lw_p53 : lw_okq (⟨"QuotedRiver$Row", "tellsSpots", "(I)Z"⟩, 4) := ⟨⟨by decide +kernel, by decide +kernel⟩, List.mem_of_getElem? (i := 314) (by decide +kernel), List.mem_of_getElem? (i := 915) (by decide +kernel), List.mem_of_getElem? (i := 916) (by decide +kernel)⟩
theorem lw_p54 : lw_okq (⟨"QuotedRiver$Row", "number", "(I)J"⟩, 4) := ⟨⟨by decide +kernel, by decide +kernel⟩, List.mem_of_getElem? (i := 314) (by decide +kernel), List.mem_of_getElem? (i := 919) (by decide +kernel), List.mem_of_getElem? (i := 920) (by decide +kernel)⟩
theorem lw_p55 : lw_okq (⟨"QuotedRiver", "search", "(I)LQuotedRiver$Sources;"⟩, 14) := ⟨⟨by decide +kernel, by decide +kernel⟩, List.mem_of_getElem? (i := 19) (by decide +kernel), List.mem_of_getElem? (i := 924) (by decide +kernel), List.mem_of_getElem? (i := 925) (by decide +kernel)⟩
theorem lw_p56 : lw_okq (⟨"QuotedRiver$Sources", "clear", "()V"⟩, 4) := ⟨⟨by decide +kernel, by decide +kernel⟩, List.mem_of_getElem? (i := 272) (by decide +kernel), List.mem_of_getElem? (i := 928) (by decide +kernel), List.mem_of_getElem? (i := 929) (by decide +kernel)⟩
theorem lw_p57 : lw_okq (⟨"QuotedRiver$Row", "earliestStep", "()I"⟩, 4) := ⟨⟨by decide +kernel, by decide +kernel⟩, List.mem_of_getElem? (i := 314) (by decide +kernel), List.mem_of_getElem? (i := 932) (by decide +kernel), List.mem_of_getElem? (i := 933) (by decide +kernel)⟩
theorem lw_p58 : lw_okq (⟨"QuotedRiver$Stick", "wasSeen", "(LQuotedRiver$Row;)Z"⟩, 9) := ⟨⟨by decide +kernel, by decide +kernel⟩, List.mem_of_getElem? (i := 228) (by decide +kernel), List.mem_of_getElem? (i := 937) (by decide +kernel), List.mem_of_getElem? (i := 938) (by decide +kernel)⟩
theorem lw_p59 : lw_okq (⟨"QuotedRiver$Sources", "add", "(I)V"⟩, 4) := ⟨⟨by decide +kernel, by decide +kernel⟩, List.mem_of_getElem? (i := 272) (by decide +kernel), List.mem_of_getElem? (i := 942) (by decide +kernel), List.mem_of_getElem? (i := 943) (by decide +kernel)⟩
theorem lw_p60 : lw_okq (⟨"QuotedRiver$Sources", "note", "(LQuotedRiver$Stick;)V"⟩, 4) := ⟨⟨by decide +kernel, by decide +kernel⟩, List.mem_of_getElem? (i := 272) (by decide +kernel), List.mem_of_getElem? (i := 946) (by decide +kernel), List.mem_of_getElem? (i := 947) (by decide +kernel)⟩
theorem lw_p61 : lw_okq (⟨"QuotedRiver$Sources", "bestStep", "()I"⟩, 4) := ⟨⟨by decide +kernel, by decide +kernel⟩, List.mem_of_getElem? (i := 272) (by decide +kernel), List.mem_of_getElem? (i := 965) (by decide +kernel), List.mem_of_getElem? (i := 966) (by decide +kernel)⟩
theorem lw_p62 : lw_okq (⟨"QuotedRiver$Sources", "leftAtWorst", "(I)I"⟩, 4) := ⟨⟨by decide +kernel, by decide +kernel⟩, List.mem_of_getElem? (i := 272) (by decide +kernel), List.mem_of_getElem? (i := 969) (by decide +kernel), List.mem_of_getElem? (i := 970) (by decide +kernel)⟩
theorem lw_p63 : lw_okq (⟨"QuotedRiver$Sources", "leastLeft", "()I"⟩, 4) := ⟨⟨by decide +kernel, by decide +kernel⟩, List.mem_of_getElem? (i := 272) (by decide +kernel), List.mem_of_getElem? (i := 978) (by decide +kernel), List.mem_of_getElem? (i := 979) (by decide +kernel)⟩
def lw_privs_4 : List (MethodName × Nat) := [(⟨"QuotedRiver$Stick", "visitedAhead", "(II)I"⟩, 9), (⟨"QuotedRiver", "cutsAll", "(II)Z"⟩, 14), (⟨"QuotedRiver$Water", "become", "(LQuotedRiver$Water;)V"⟩, 3), (⟨"QuotedRiver", "refuseSeen", "(I)I"⟩, 14), (⟨"QuotedRiver", "rowOf", "(I)LQuotedRiver$Row;"⟩, 14), (⟨"QuotedRiver$Row", "tellsSpots", "(I)Z"⟩, 4), (⟨"QuotedRiver$Row", "number", "(I)J"⟩, 4), (⟨"QuotedRiver", "search", "(I)LQuotedRiver$Sources;"⟩, 14), (⟨"QuotedRiver$Sources", "clear", "()V"⟩, 4), (⟨"QuotedRiver$Row", "earliestStep", "()I"⟩, 4), (⟨"QuotedRiver$Stick", "wasSeen", "(LQuotedRiver$Row;)Z"⟩, 9), (⟨"QuotedRiver$Sources", "add", "(I)V"⟩, 4), (⟨"QuotedRiver$Sources", "note", "(LQuotedRiver$Stick;)V"⟩, 4), (⟨"QuotedRiver$Sources", "bestStep", "()I"⟩, 4), (⟨"QuotedRiver$Sources", "leftAtWorst", "(I)I"⟩, 4), (⟨"QuotedRiver$Sources", "leastLeft", "()I"⟩, 4)]
theorem lw_r4 : ∀ q ∈ lw_privs_4, lw_okq q := List.forall_mem_cons.mpr ⟨lw_p48, List.forall_mem_cons.mpr ⟨lw_p49, List.forall_mem_cons.mpr ⟨lw_p50, List.forall_mem_cons.mpr ⟨lw_p51, List.forall_mem_cons.mpr ⟨lw_p52, List.forall_mem_cons.mpr ⟨lw_p53, List.forall_mem_cons.mpr ⟨lw_p54, List.forall_mem_cons.mpr ⟨lw_p55, List.forall_mem_cons.mpr ⟨lw_p56, List.forall_mem_cons.mpr ⟨lw_p57, List.forall_mem_cons.mpr ⟨lw_p58, List.forall_mem_cons.mpr ⟨lw_p59, List.forall_mem_cons.mpr ⟨lw_p60, List.forall_mem_cons.mpr ⟨lw_p61, List.forall_mem_cons.mpr ⟨lw_p62, List.forall_mem_cons.mpr ⟨lw_p63, fun _ h => absurd h List.not_mem_nil⟩⟩⟩⟩⟩⟩⟩⟩⟩⟩⟩⟩⟩⟩⟩⟩
theorem lw_p64 : lw_okq (⟨"QuotedRiver", "refuseTurn", "(III)I"⟩, 14) := ⟨⟨by decide +kernel, by decide +kernel⟩, List.mem_of_getElem? (i := 19) (by decide +kernel), List.mem_of_getElem? (i := 987) (by decide +kernel), List.mem_of_getElem? (i := 988) (by decide +kernel)⟩
theorem lw_p65 : lw_okq (⟨"QuotedRiver", "searchTurns", "(III)LQuotedRiver$Sources;"⟩, 14) := ⟨⟨by decide +kernel, by decide +kernel⟩, List.mem_of_getElem? (i := 19) (by decide +kernel), List.mem_of_getElem? (i := 991) (by decide +kernel), List.mem_of_getElem? (i := 992) (by decide +kernel)⟩
theorem lw_p66 : lw_okq (⟨"QuotedRiver", "hasChance", "(I)Z"⟩, 14) := ⟨⟨by decide +kernel, by decide +kernel⟩, List.mem_of_getElem? (i := 19) (by decide +kernel), List.mem_of_getElem? (i := 1035) (by decide +kernel), List.mem_of_getElem? (i := 1036) (by decide +kernel)⟩
theorem lw_p67 : lw_okq (⟨"QuotedRiver", "weighTo", "(I)V"⟩, 14) := ⟨⟨by decide +kernel, by decide +kernel⟩, List.mem_of_getElem? (i := 19) (by decide +kernel), List.mem_of_getElem? (i := 1040) (by decide +kernel), List.mem_of_getElem? (i := 1041) (by decide +kernel)⟩
theorem lw_p68 : lw_okq (⟨"QuotedRiver", "weighNext", "(I)V"⟩, 14) := ⟨⟨by decide +kernel, by decide +kernel⟩, List.mem_of_getElem? (i := 19) (by decide +kernel), List.mem_of_getElem? (i := 1044) (by decide +kernel), List.mem_of_getElem? (i := 1045) (by decide +kernel)⟩
theorem lw_p69 : lw_okq (⟨"QuotedRiver$Chances", "begin", "(I)V"⟩, 4) := ⟨⟨by decide +kernel, by decide +kernel⟩, List.mem_of_getElem? (i := 294) (by decide +kernel), List.mem_of_getElem? (i := 1048) (by decide +kernel), List.mem_of_getElem? (i := 1049) (by decide +kernel)⟩
theorem lw_p70 : lw_okq (⟨"QuotedRiver$Chances", "advance", "(III)V"⟩, 4) := ⟨⟨by decide +kernel, by decide +kernel⟩, List.mem_of_getElem? (i := 294) (by decide +kernel), List.mem_of_getElem? (i := 1058) (by decide +kernel), List.mem_of_getElem? (i := 1059) (by decide +kernel)⟩
theorem lw_p71 : lw_okq (⟨"QuotedRiver$Chances", "weightedSum", "()J"⟩, 4) := ⟨⟨by decide +kernel, by decide +kernel⟩, List.mem_of_getElem? (i := 294) (by decide +kernel), List.mem_of_getElem? (i := 1064) (by decide +kernel), List.mem_of_getElem? (i := 1065) (by decide +kernel)⟩
theorem lw_p72 : lw_okq (⟨"QuotedRiver$Chances", "weightBelow", "(I)J"⟩, 4) := ⟨⟨by decide +kernel, by decide +kernel⟩, List.mem_of_getElem? (i := 294) (by decide +kernel), List.mem_of_getElem? (i := 1078) (by decide +kernel), List.mem_of_getElem? (i := 1079) (by decide +kernel)⟩
theorem lw_p73 : lw_okq (⟨"QuotedRiver", "drawDay", "(J)I"⟩, 14) := ⟨⟨by decide +kernel, by decide +kernel⟩, List.mem_of_getElem? (i := 19) (by decide +kernel), List.mem_of_getElem? (i := 1095) (by decide +kernel), List.mem_of_getElem? (i := 1096) (by decide +kernel)⟩
theorem lw_p74 : lw_okq (⟨"QuotedRiver$Rivers", "addAct", "(III)V"⟩, 20) := ⟨⟨by decide +kernel, by decide +kernel⟩, List.mem_of_getElem? (i := 71) (by decide +kernel), List.mem_of_getElem? (i := 1112) (by decide +kernel), List.mem_of_getElem? (i := 1113) (by decide +kernel)⟩
theorem lw_p75 : lw_okq (⟨"QuotedRiver", "rowsThere", "()I"⟩, 14) := ⟨⟨by decide +kernel, by decide +kernel⟩, List.mem_of_getElem? (i := 19) (by decide +kernel), List.mem_of_getElem? (i := 1136) (by decide +kernel), List.mem_of_getElem? (i := 1137) (by decide +kernel)⟩
theorem lw_p76 : lw_okq (⟨"QuotedRiver", "imageOf", "(I)LQuotedRiver$Rivers;"⟩, 14) := ⟨⟨by decide +kernel, by decide +kernel⟩, List.mem_of_getElem? (i := 19) (by decide +kernel), List.mem_of_getElem? (i := 1144) (by decide +kernel), List.mem_of_getElem? (i := 1145) (by decide +kernel)⟩
theorem lw_p77 : lw_okq (⟨"QuotedRiver$Row", "lay", "(II)V"⟩, 4) := ⟨⟨by decide +kernel, by decide +kernel⟩, List.mem_of_getElem? (i := 314) (by decide +kernel), List.mem_of_getElem? (i := 1156) (by decide +kernel), List.mem_of_getElem? (i := 1157) (by decide +kernel)⟩
theorem lw_p78 : lw_okq (⟨"QuotedRiver$Row", "store", "(IJ)V"⟩, 4) := ⟨⟨by decide +kernel, by decide +kernel⟩, List.mem_of_getElem? (i := 314) (by decide +kernel), List.mem_of_getElem? (i := 1167) (by decide +kernel), List.mem_of_getElem? (i := 1168) (by decide +kernel)⟩
theorem lw_p79 : lw_okq (⟨"QuotedRiver$Row", "reachesOver", "(II)Z"⟩, 4) := ⟨⟨by decide +kernel, by decide +kernel⟩, List.mem_of_getElem? (i := 314) (by decide +kernel), List.mem_of_getElem? (i := 1175) (by decide +kernel), List.mem_of_getElem? (i := 1176) (by decide +kernel)⟩
def lw_privs_5 : List (MethodName × Nat) := [(⟨"QuotedRiver", "refuseTurn", "(III)I"⟩, 14), (⟨"QuotedRiver", "searchTurns", "(III)LQuotedRiver$Sources;"⟩, 14), (⟨"QuotedRiver", "hasChance", "(I)Z"⟩, 14), (⟨"QuotedRiver", "weighTo", "(I)V"⟩, 14), (⟨"QuotedRiver", "weighNext", "(I)V"⟩, 14), (⟨"QuotedRiver$Chances", "begin", "(I)V"⟩, 4), (⟨"QuotedRiver$Chances", "advance", "(III)V"⟩, 4), (⟨"QuotedRiver$Chances", "weightedSum", "()J"⟩, 4), (⟨"QuotedRiver$Chances", "weightBelow", "(I)J"⟩, 4), (⟨"QuotedRiver", "drawDay", "(J)I"⟩, 14), (⟨"QuotedRiver$Rivers", "addAct", "(III)V"⟩, 20), (⟨"QuotedRiver", "rowsThere", "()I"⟩, 14), (⟨"QuotedRiver", "imageOf", "(I)LQuotedRiver$Rivers;"⟩, 14), (⟨"QuotedRiver$Row", "lay", "(II)V"⟩, 4), (⟨"QuotedRiver$Row", "store", "(IJ)V"⟩, 4), (⟨"QuotedRiver$Row", "reachesOver", "(II)Z"⟩, 4)]
theorem lw_r5 : ∀ q ∈ lw_privs_5, lw_okq q := List.forall_mem_cons.mpr ⟨lw_p64, List.forall_mem_cons.mpr ⟨lw_p65, List.forall_mem_cons.mpr ⟨lw_p66, List.forall_mem_cons.mpr ⟨lw_p67, List.forall_mem_cons.mpr ⟨lw_p68, List.forall_mem_cons.mpr ⟨lw_p69, List.forall_mem_cons.mpr ⟨lw_p70, List.forall_mem_cons.mpr ⟨lw_p71, List.forall_mem_cons.mpr ⟨lw_p72, List.forall_mem_cons.mpr ⟨lw_p73, List.forall_mem_cons.mpr ⟨lw_p74, List.forall_mem_cons.mpr ⟨lw_p75, List.forall_mem_cons.mpr ⟨lw_p76, List.forall_mem_cons.mpr ⟨lw_p77, List.forall_mem_cons.mpr ⟨lw_p78, List.forall_mem_cons.mpr ⟨lw_p79, fun _ h => absurd h List.not_mem_nil⟩⟩⟩⟩⟩⟩⟩⟩⟩⟩⟩⟩⟩⟩⟩⟩
theorem lw_p80 : lw_okq (⟨"QuotedRiverModel", "advance", "()V"⟩, 42) := ⟨⟨by decide +kernel, by decide +kernel⟩, List.mem_of_getElem? (i := 1180) (by decide +kernel), List.mem_of_getElem? (i := 1342) (by decide +kernel), List.mem_of_getElem? (i := 1343) (by decide +kernel)⟩
theorem lw_p81 : lw_okq (⟨"QuotedRiverModel", "see", "(I)I"⟩, 42) := ⟨⟨by decide +kernel, by decide +kernel⟩, List.mem_of_getElem? (i := 1180) (by decide +kernel), List.mem_of_getElem? (i := 1346) (by decide +kernel), List.mem_of_getElem? (i := 1347) (by decide +kernel)⟩
theorem lw_p82 : lw_okq (⟨"QuotedRiverModel", "good", "()Z"⟩, 42) := ⟨⟨by decide +kernel, by decide +kernel⟩, List.mem_of_getElem? (i := 1180) (by decide +kernel), List.mem_of_getElem? (i := 1356) (by decide +kernel), List.mem_of_getElem? (i := 1357) (by decide +kernel)⟩
theorem lw_p83 : lw_okq (⟨"QuotedRiverModel", "readLine", "()V"⟩, 42) := ⟨⟨by decide +kernel, by decide +kernel⟩, List.mem_of_getElem? (i := 1180) (by decide +kernel), List.mem_of_getElem? (i := 1360) (by decide +kernel), List.mem_of_getElem? (i := 1361) (by decide +kernel)⟩
theorem lw_p84 : lw_okq (⟨"QuotedRiverModel", "readFirst", "()V"⟩, 42) := ⟨⟨by decide +kernel, by decide +kernel⟩, List.mem_of_getElem? (i := 1180) (by decide +kernel), List.mem_of_getElem? (i := 1364) (by decide +kernel), List.mem_of_getElem? (i := 1365) (by decide +kernel)⟩
theorem lw_p85 : lw_okq (⟨"QuotedRiverModel", "needs", "(Ljava/lang/String;)V"⟩, 42) := ⟨⟨by decide +kernel, by decide +kernel⟩, List.mem_of_getElem? (i := 1180) (by decide +kernel), List.mem_of_getElem? (i := 1369) (by decide +kernel), List.mem_of_getElem? (i := 1370) (by decide +kernel)⟩
theorem lw_p86 : lw_okq (⟨"QuotedRiverModel", "takes", "(Ljava/lang/String;)Z"⟩, 42) := ⟨⟨by decide +kernel, by decide +kernel⟩, List.mem_of_getElem? (i := 1180) (by decide +kernel), List.mem_of_getElem? (i := 1373) (by decide +kernel), List.mem_of_getElem? (i := 1374) (by decide +kernel)⟩
theorem lw_p87 : lw_okq (⟨"QuotedRiverModel", "is", "(Ljava/lang/String;)Z"⟩, 42) := ⟨⟨by decide +kernel, by decide +kernel⟩, List.mem_of_getElem? (i := 1180) (by decide +kernel), List.mem_of_getElem? (i := 1377) (by decide +kernel), List.mem_of_getElem? (i := 1378) (by decide +kernel)⟩
theorem lw_p88 : lw_okq (⟨"QuotedRiverModel", "errs", "(I)V"⟩, 42) := ⟨⟨by decide +kernel, by decide +kernel⟩, List.mem_of_getElem? (i := 1180) (by decide +kernel), List.mem_of_getElem? (i := 1383) (by decide +kernel), List.mem_of_getElem? (i := 1384) (by decide +kernel)⟩
theorem lw_p89 : lw_okq (⟨"QuotedRiverModel", "told", "(Ljava/lang/String;II)I"⟩, 42) := ⟨⟨by decide +kernel, by decide +kernel⟩, List.mem_of_getElem? (i := 1180) (by decide +kernel), List.mem_of_getElem? (i := 1388) (by decide +kernel), List.mem_of_getElem? (i := 1389) (by decide +kernel)⟩
theorem lw_p90 : lw_okq (⟨"QuotedRiverModel", "number", "(II)I"⟩, 42) := ⟨⟨by decide +kernel, by decide +kernel⟩, List.mem_of_getElem? (i := 1180) (by decide +kernel), List.mem_of_getElem? (i := 1392) (by decide +kernel), List.mem_of_getElem? (i := 1393) (by decide +kernel)⟩
theorem lw_p91 : lw_okq (⟨"QuotedRiverModel", "readNext", "()V"⟩, 42) := ⟨⟨by decide +kernel, by decide +kernel⟩, List.mem_of_getElem? (i := 1180) (by decide +kernel), List.mem_of_getElem? (i := 1398) (by decide +kernel), List.mem_of_getElem? (i := 1399) (by decide +kernel)⟩
theorem lw_p92 : lw_okq (⟨"QuotedRiverModel", "readReach", "()V"⟩, 42) := ⟨⟨by decide +kernel, by decide +kernel⟩, List.mem_of_getElem? (i := 1180) (by decide +kernel), List.mem_of_getElem? (i := 1405) (by decide +kernel), List.mem_of_getElem? (i := 1406) (by decide +kernel)⟩
theorem lw_p93 : lw_okq (⟨"QuotedRiverModel", "readJoin", "()V"⟩, 42) := ⟨⟨by decide +kernel, by decide +kernel⟩, List.mem_of_getElem? (i := 1180) (by decide +kernel), List.mem_of_getElem? (i := 1413) (by decide +kernel), List.mem_of_getElem? (i := 1414) (by decide +kernel)⟩
theorem lw_p94 : lw_okq (⟨"QuotedRiverModel", "readRain", "()V"⟩, 42) := ⟨⟨by decide +kernel, by decide +kernel⟩, List.mem_of_getElem? (i := 1180) (by decide +kernel), List.mem_of_getElem? (i := 1419) (by decide +kernel), List.mem_of_getElem? (i := 1420) (by decide +kernel)⟩
theorem lw_p95 : lw_okq (⟨"QuotedRiverModel", "isReach", "(J)Z"⟩, 42) := ⟨⟨by decide +kernel, by decide +kernel⟩, List.mem_of_getElem? (i := 1180) (by decide +kernel), List.mem_of_getElem? (i := 1427) (by decide +kernel), List.mem_of_getElem? (i := 1428) (by decide +kernel)⟩
def lw_privs_6 : List (MethodName × Nat) := [(⟨"QuotedRiverModel", "advance", "()V"⟩, 42), (⟨"QuotedRiverModel", "see", "(I)I"⟩, 42), (⟨"QuotedRiverModel", "good", "()Z"⟩, 42), (⟨"QuotedRiverModel", "readLine", "()V"⟩, 42), (⟨"QuotedRiverModel", "readFirst", "()V"⟩, 42), (⟨"QuotedRiverModel", "needs", "(Ljava/lang/String;)V"⟩, 42), (⟨"QuotedRiverModel", "takes", "(Ljava/lang/String;)Z"⟩, 42), (⟨"QuotedRiverModel", "is", "(Ljava/lang/String;)Z"⟩, 42), (⟨"QuotedRiverModel", "errs", "(I)V"⟩, 42), (⟨"QuotedRiverModel", "told", "(Ljava/lang/String;II)I"⟩, 42), (⟨"QuotedRiverModel", "number", "(II)I"⟩, 42), (⟨"QuotedRiverModel", "readNext", "()V"⟩, 42), (⟨"QuotedRiverModel", "readReach", "()V"⟩, 42), (⟨"QuotedRiverModel", "readJoin", "()V"⟩, 42), (⟨"QuotedRiverModel", "readRain", "()V"⟩, 42), (⟨"QuotedRiverModel", "isReach", "(J)Z"⟩, 42)]
theorem lw_r6 : ∀ q ∈ lw_privs_6, lw_okq q := List.forall_mem_cons.mpr ⟨lw_p80, List.forall_mem_cons.mpr ⟨lw_p81, List.forall_mem_cons.mpr ⟨lw_p82, List.forall_mem_cons.mpr ⟨lw_p83, List.forall_mem_cons.mpr ⟨lw_p84, List.forall_mem_cons.mpr ⟨lw_p85, List.forall_mem_cons.mpr ⟨lw_p86, List.forall_mem_cons.mpr ⟨lw_p87, List.forall_mem_cons.mpr ⟨lw_p88, List.forall_mem_cons.mpr ⟨lw_p89, List.forall_mem_cons.mpr ⟨lw_p90, List.forall_mem_cons.mpr ⟨lw_p91, List.forall_mem_cons.mpr ⟨lw_p92, List.forall_mem_cons.mpr ⟨lw_p93, List.forall_mem_cons.mpr ⟨lw_p94, List.forall_mem_cons.mpr ⟨lw_p95, fun _ h => absurd h List.not_mem_nil⟩⟩⟩⟩⟩⟩⟩⟩⟩⟩⟩⟩⟩⟩⟩⟩
theorem lw_p96 : lw_okq (⟨"QuotedRiverModel", "of", "(II)I"⟩, 42) := ⟨⟨by decide +kernel, by decide +kernel⟩, List.mem_of_getElem? (i := 1180) (by decide +kernel), List.mem_of_getElem? (i := 1431) (by decide +kernel), List.mem_of_getElem? (i := 1432) (by decide +kernel)⟩
theorem lw_p97 : lw_okq (⟨"QuotedRiverModel", "isJoin", "(I)Z"⟩, 42) := ⟨⟨by decide +kernel, by decide +kernel⟩, List.mem_of_getElem? (i := 1180) (by decide +kernel), List.mem_of_getElem? (i := 1443) (by decide +kernel), List.mem_of_getElem? (i := 1444) (by decide +kernel)⟩
theorem lw_p98 : lw_okq (⟨"QuotedRiverModel", "ofJoin", "(II)I"⟩, 42) := ⟨⟨by decide +kernel, by decide +kernel⟩, List.mem_of_getElem? (i := 1180) (by decide +kernel), List.mem_of_getElem? (i := 1448) (by decide +kernel), List.mem_of_getElem? (i := 1449) (by decide +kernel)⟩
theorem lw_p99 : lw_okq (⟨"QuotedRiverModel", "asksRivers", "()Z"⟩, 42) := ⟨⟨by decide +kernel, by decide +kernel⟩, List.mem_of_getElem? (i := 1180) (by decide +kernel), List.mem_of_getElem? (i := 1456) (by decide +kernel), List.mem_of_getElem? (i := 1457) (by decide +kernel)⟩
theorem lw_p100 : lw_okq (⟨"QuotedRiverModel", "asItIs", "()V"⟩, 42) := ⟨⟨by decide +kernel, by decide +kernel⟩, List.mem_of_getElem? (i := 1180) (by decide +kernel), List.mem_of_getElem? (i := 1460) (by decide +kernel), List.mem_of_getElem? (i := 1461) (by decide +kernel)⟩
theorem lw_p101 : lw_okq (⟨"QuotedRiverModel", "layLevels", "()V"⟩, 42) := ⟨⟨by decide +kernel, by decide +kernel⟩, List.mem_of_getElem? (i := 1180) (by decide +kernel), List.mem_of_getElem? (i := 1464) (by decide +kernel), List.mem_of_getElem? (i := 1465) (by decide +kernel)⟩
theorem lw_p102 : lw_okq (⟨"QuotedRiverModel", "isRivers", "()Z"⟩, 42) := ⟨⟨by decide +kernel, by decide +kernel⟩, List.mem_of_getElem? (i := 1180) (by decide +kernel), List.mem_of_getElem? (i := 1469) (by decide +kernel), List.mem_of_getElem? (i := 1470) (by decide +kernel)⟩
theorem lw_p103 : lw_okq (⟨"QuotedRiverModel", "asksReach", "(I)Z"⟩, 42) := ⟨⟨by decide +kernel, by decide +kernel⟩, List.mem_of_getElem? (i := 1180) (by decide +kernel), List.mem_of_getElem? (i := 1485) (by decide +kernel), List.mem_of_getElem? (i := 1486) (by decide +kernel)⟩
theorem lw_p104 : lw_okq (⟨"QuotedRiverModel", "lowestOf", "()I"⟩, 42) := ⟨⟨by decide +kernel, by decide +kernel⟩, List.mem_of_getElem? (i := 1180) (by decide +kernel), List.mem_of_getElem? (i := 1512) (by decide +kernel), List.mem_of_getElem? (i := 1513) (by decide +kernel)⟩
theorem lw_p105 : lw_okq (⟨"QuotedRiverModel", "putsIn", "(II)Z"⟩, 42) := ⟨⟨by decide +kernel, by decide +kernel⟩, List.mem_of_getElem? (i := 1180) (by decide +kernel), List.mem_of_getElem? (i := 1544) (by decide +kernel), List.mem_of_getElem? (i := 1545) (by decide +kernel)⟩
theorem lw_p106 : lw_okq (⟨"QuotedRiverModel", "goStick", "(II)V"⟩, 42) := ⟨⟨by decide +kernel, by decide +kernel⟩, List.mem_of_getElem? (i := 1180) (by decide +kernel), List.mem_of_getElem? (i := 1548) (by decide +kernel), List.mem_of_getElem? (i := 1549) (by decide +kernel)⟩
theorem lw_p107 : lw_okq (⟨"QuotedRiverModel", "joinFrom", "(II)I"⟩, 42) := ⟨⟨by decide +kernel, by decide +kernel⟩, List.mem_of_getElem? (i := 1180) (by decide +kernel), List.mem_of_getElem? (i := 1552) (by decide +kernel), List.mem_of_getElem? (i := 1553) (by decide +kernel)⟩
theorem lw_p108 : lw_okq (⟨"QuotedRiverModel", "comesOf", "(II)I"⟩, 42) := ⟨⟨by decide +kernel, by decide +kernel⟩, List.mem_of_getElem? (i := 1180) (by decide +kernel), List.mem_of_getElem? (i := 1560) (by decide +kernel), List.mem_of_getElem? (i := 1561) (by decide +kernel)⟩
theorem lw_p109 : lw_okq (⟨"QuotedRiverModel", "areTwo", "(II)Z"⟩, 42) := ⟨⟨by decide +kernel, by decide +kernel⟩, List.mem_of_getElem? (i := 1180) (by decide +kernel), List.mem_of_getElem? (i := 1629) (by decide +kernel), List.mem_of_getElem? (i := 1630) (by decide +kernel)⟩
theorem lw_p110 : lw_okq (⟨"QuotedRiverModel", "quickOf", "(II)I"⟩, 42) := ⟨⟨by decide +kernel, by decide +kernel⟩, List.mem_of_getElem? (i := 1180) (by decide +kernel), List.mem_of_getElem? (i := 1638) (by decide +kernel), List.mem_of_getElem? (i := 1639) (by decide +kernel)⟩
theorem lw_p111 : lw_okq (⟨"QuotedRiverModel", "oftenOf", "(II)I"⟩, 42) := ⟨⟨by decide +kernel, by decide +kernel⟩, List.mem_of_getElem? (i := 1180) (by decide +kernel), List.mem_of_getElem? (i := 1658) (by decide +kernel), List.mem_of_getElem? (i := 1659) (by decide +kernel)⟩
def lw_privs_7 : List (MethodName × Nat) := [(⟨"QuotedRiverModel", "of", "(II)I"⟩, 42), (⟨"QuotedRiverModel", "isJoin", "(I)Z"⟩, 42), (⟨"QuotedRiverModel", "ofJoin", "(II)I"⟩, 42), (⟨"QuotedRiverModel", "asksRivers", "()Z"⟩, 42), (⟨"QuotedRiverModel", "asItIs", "()V"⟩, 42), (⟨"QuotedRiverModel", "layLevels", "()V"⟩, 42), (⟨"QuotedRiverModel", "isRivers", "()Z"⟩, 42), (⟨"QuotedRiverModel", "asksReach", "(I)Z"⟩, 42), (⟨"QuotedRiverModel", "lowestOf", "()I"⟩, 42), (⟨"QuotedRiverModel", "putsIn", "(II)Z"⟩, 42), (⟨"QuotedRiverModel", "goStick", "(II)V"⟩, 42), (⟨"QuotedRiverModel", "joinFrom", "(II)I"⟩, 42), (⟨"QuotedRiverModel", "comesOf", "(II)I"⟩, 42), (⟨"QuotedRiverModel", "areTwo", "(II)Z"⟩, 42), (⟨"QuotedRiverModel", "quickOf", "(II)I"⟩, 42), (⟨"QuotedRiverModel", "oftenOf", "(II)I"⟩, 42)]
theorem lw_r7 : ∀ q ∈ lw_privs_7, lw_okq q := List.forall_mem_cons.mpr ⟨lw_p96, List.forall_mem_cons.mpr ⟨lw_p97, List.forall_mem_cons.mpr ⟨lw_p98, List.forall_mem_cons.mpr ⟨lw_p99, List.forall_mem_cons.mpr ⟨lw_p100, List.forall_mem_cons.mpr ⟨lw_p101, List.forall_mem_cons.mpr ⟨lw_p102, List.forall_mem_cons.mpr ⟨lw_p103, List.forall_mem_cons.mpr ⟨lw_p104, List.forall_mem_cons.mpr ⟨lw_p105, List.forall_mem_cons.mpr ⟨lw_p106, List.forall_mem_cons.mpr ⟨lw_p107, List.forall_mem_cons.mpr ⟨lw_p108, List.forall_mem_cons.mpr ⟨lw_p109, List.forall_mem_cons.mpr ⟨lw_p110, List.forall_mem_cons.mpr ⟨lw_p111, fun _ h => absurd h List.not_mem_nil⟩⟩⟩⟩⟩⟩⟩⟩⟩⟩⟩⟩⟩⟩⟩⟩
theorem lw_p112 : lw_okq (⟨"QuotedRiverModel", "stopsOf", "(II)I"⟩, 42) := ⟨⟨by decide +kernel, by decide +kernel⟩, List.mem_of_getElem? (i := 1180) (by decide +kernel), List.mem_of_getElem? (i := 1666) (by decide +kernel), List.mem_of_getElem? (i := 1667) (by decide +kernel)⟩
theorem lw_p113 : lw_okq (⟨"QuotedRiverModel", "seaOf", "(II)I"⟩, 42) := ⟨⟨by decide +kernel, by decide +kernel⟩, List.mem_of_getElem? (i := 1180) (by decide +kernel), List.mem_of_getElem? (i := 1681) (by decide +kernel), List.mem_of_getElem? (i := 1682) (by decide +kernel)⟩
theorem lw_p114 : lw_okq (⟨"QuotedRiverModel", "layPairs", "(I)I"⟩, 42) := ⟨⟨by decide +kernel, by decide +kernel⟩, List.mem_of_getElem? (i := 1180) (by decide +kernel), List.mem_of_getElem? (i := 1693) (by decide +kernel), List.mem_of_getElem? (i := 1694) (by decide +kernel)⟩
theorem lw_p115 : lw_okq (⟨"QuotedRiverModel", "askSeen", "(IZ)I"⟩, 42) := ⟨⟨by decide +kernel, by decide +kernel⟩, List.mem_of_getElem? (i := 1180) (by decide +kernel), List.mem_of_getElem? (i := 1697) (by decide +kernel), List.mem_of_getElem? (i := 1698) (by decide +kernel)⟩
theorem lw_p116 : lw_okq (⟨"QuotedRiverModel", "numberAt", "(II)J"⟩, 42) := ⟨⟨by decide +kernel, by decide +kernel⟩, List.mem_of_getElem? (i := 1180) (by decide +kernel), List.mem_of_getElem? (i := 1704) (by decide +kernel), List.mem_of_getElem? (i := 1705) (by decide +kernel)⟩
theorem lw_p117 : lw_okq (⟨"QuotedRiverModel", "isSeen", "(I)Z"⟩, 42) := ⟨⟨by decide +kernel, by decide +kernel⟩, List.mem_of_getElem? (i := 1180) (by decide +kernel), List.mem_of_getElem? (i := 1708) (by decide +kernel), List.mem_of_getElem? (i := 1709) (by decide +kernel)⟩
theorem lw_p118 : lw_okq (⟨"QuotedRiverModel", "askOf", "()I"⟩, 42) := ⟨⟨by decide +kernel, by decide +kernel⟩, List.mem_of_getElem? (i := 1180) (by decide +kernel), List.mem_of_getElem? (i := 1724) (by decide +kernel), List.mem_of_getElem? (i := 1725) (by decide +kernel)⟩
theorem lw_p119 : lw_okq (⟨"QuotedRiverModel", "layTurns", "(III)I"⟩, 42) := ⟨⟨by decide +kernel, by decide +kernel⟩, List.mem_of_getElem? (i := 1180) (by decide +kernel), List.mem_of_getElem? (i := 1736) (by decide +kernel), List.mem_of_getElem? (i := 1737) (by decide +kernel)⟩
theorem lw_p120 : lw_okq (⟨"QuotedRiverModel", "startWeights", "()V"⟩, 42) := ⟨⟨by decide +kernel, by decide +kernel⟩, List.mem_of_getElem? (i := 1180) (by decide +kernel), List.mem_of_getElem? (i := 1778) (by decide +kernel), List.mem_of_getElem? (i := 1779) (by decide +kernel)⟩
theorem lw_p121 : lw_okq (⟨"QuotedRiverModel", "stepWeights", "(I)V"⟩, 42) := ⟨⟨by decide +kernel, by decide +kernel⟩, List.mem_of_getElem? (i := 1180) (by decide +kernel), List.mem_of_getElem? (i := 1782) (by decide +kernel), List.mem_of_getElem? (i := 1783) (by decide +kernel)⟩
theorem lw_p122 : lw_okq (⟨"QuotedRiverModel", "weightFrom", "(II)J"⟩, 42) := ⟨⟨by decide +kernel, by decide +kernel⟩, List.mem_of_getElem? (i := 1180) (by decide +kernel), List.mem_of_getElem? (i := 1786) (by decide +kernel), List.mem_of_getElem? (i := 1787) (by decide +kernel)⟩
theorem lw_p123 : lw_okq (⟨"QuotedRiverModel", "keepAct", "(I)I"⟩, 42) := ⟨⟨by decide +kernel, by decide +kernel⟩, List.mem_of_getElem? (i := 1180) (by decide +kernel), List.mem_of_getElem? (i := 1806) (by decide +kernel), List.mem_of_getElem? (i := 1807) (by decide +kernel)⟩
theorem lw_p124 : lw_okq (⟨"QuotedRiverModel", "goDrawn", "(J)V"⟩, 42) := ⟨⟨by decide +kernel, by decide +kernel⟩, List.mem_of_getElem? (i := 1180) (by decide +kernel), List.mem_of_getElem? (i := 1831) (by decide +kernel), List.mem_of_getElem? (i := 1832) (by decide +kernel)⟩
def lw_privs_8 : List (MethodName × Nat) := [(⟨"QuotedRiverModel", "stopsOf", "(II)I"⟩, 42), (⟨"QuotedRiverModel", "seaOf", "(II)I"⟩, 42), (⟨"QuotedRiverModel", "layPairs", "(I)I"⟩, 42), (⟨"QuotedRiverModel", "askSeen", "(IZ)I"⟩, 42), (⟨"QuotedRiverModel", "numberAt", "(II)J"⟩, 42), (⟨"QuotedRiverModel", "isSeen", "(I)Z"⟩, 42), (⟨"QuotedRiverModel", "askOf", "()I"⟩, 42), (⟨"QuotedRiverModel", "layTurns", "(III)I"⟩, 42), (⟨"QuotedRiverModel", "startWeights", "()V"⟩, 42), (⟨"QuotedRiverModel", "stepWeights", "(I)V"⟩, 42), (⟨"QuotedRiverModel", "weightFrom", "(II)J"⟩, 42), (⟨"QuotedRiverModel", "keepAct", "(I)I"⟩, 42), (⟨"QuotedRiverModel", "goDrawn", "(J)V"⟩, 42)]
theorem lw_r8 : ∀ q ∈ lw_privs_8, lw_okq q := List.forall_mem_cons.mpr ⟨lw_p112, List.forall_mem_cons.mpr ⟨lw_p113, List.forall_mem_cons.mpr ⟨lw_p114, List.forall_mem_cons.mpr ⟨lw_p115, List.forall_mem_cons.mpr ⟨lw_p116, List.forall_mem_cons.mpr ⟨lw_p117, List.forall_mem_cons.mpr ⟨lw_p118, List.forall_mem_cons.mpr ⟨lw_p119, List.forall_mem_cons.mpr ⟨lw_p120, List.forall_mem_cons.mpr ⟨lw_p121, List.forall_mem_cons.mpr ⟨lw_p122, List.forall_mem_cons.mpr ⟨lw_p123, List.forall_mem_cons.mpr ⟨lw_p124, fun _ h => absurd h List.not_mem_nil⟩⟩⟩⟩⟩⟩⟩⟩⟩⟩⟩⟩⟩
def lw_privs : List (MethodName × Nat) := lw_privs_1 ++ (lw_privs_2 ++ (lw_privs_3 ++ (lw_privs_4 ++ (lw_privs_5 ++ (lw_privs_6 ++ (lw_privs_7 ++ (lw_privs_8)))))))
def lw_tbl : List Cond := k2_sels lw_privs ++ tables_1
theorem lw_privs_ok : ∀ q ∈ lw_privs, lw_okq q := by
  show ∀ q ∈ lw_privs_1 ++ (lw_privs_2 ++ (lw_privs_3 ++ (lw_privs_4 ++ (lw_privs_5 ++ (lw_privs_6 ++ (lw_privs_7 ++ (lw_privs_8))))))), lw_okq q
  exact List.forall_mem_append.mpr ⟨lw_r1, List.forall_mem_append.mpr ⟨lw_r2, List.forall_mem_append.mpr ⟨lw_r3, List.forall_mem_append.mpr ⟨lw_r4, List.forall_mem_append.mpr ⟨lw_r5, List.forall_mem_append.mpr ⟨lw_r6, List.forall_mem_append.mpr ⟨lw_r7, lw_r8⟩⟩⟩⟩⟩⟩⟩
-- ===== end of PART A; then your names; then what follows =====
/-! ===== BEGIN words of one list among another's, by their places ===== -/
theorem goodIn_r {big : List Cond} (ws : List Cond) (ps : List Nat) (hp : ws = ps.filterMap (fun i => big[i]?)) (h : ws.all goodWord = true) : GoodIn big ws := by
  intro w hw
  have h1 := List.all_eq_true.mp h w hw
  rw [hp] at hw
  obtain ⟨i, -, hi⟩ := List.mem_filterMap.mp hw
  have hm : w ∈ big := by first | exact List.mem_of_getElem? hi | exact List.getElem?_mem hi
  exact ⟨hm, good_of_word h1⟩
theorem goodIn_app {big a b : List Cond} (ha : GoodIn big a) (hb : GoodIn big b) : GoodIn big (a ++ b) := fun w h => (List.mem_append.mp h).elim (ha w) (hb w)
theorem goodIn_ca {big a b : List Cond} {c : Cond} (ha : GoodIn big (c :: a)) (hb : GoodIn big b) : GoodIn big (c :: (a ++ b)) := fun w h => (List.mem_cons.mp h).elim (fun e => ha w (List.mem_cons.mpr (Or.inl e))) (fun h => (List.mem_append.mp h).elim (fun h => ha w (List.mem_cons.mpr (Or.inr h))) (hb w))
theorem goodIn_sub {big ws : List Cond} (hm : ∀ w ∈ ws, w ∈ big) (h : ws.all goodWord = true) : GoodIn big ws := fun w hw => ⟨hm w hw, good_of_word (List.all_eq_true.mp h w hw)⟩
/-! ===== END ===== -/

/-! ===== BEGIN printed: names, fields, word lists, decode rows ===== -/
def RX0 : String := "QuotedRiver$Chances"
def TX0 : u_T := fun k => match k with
  | 0 => ("QuotedRiver$Chances", "weights", "[J", false)
  | 1 => ("QuotedRiver$Chances", "later", "[J", false)
  | 2 => ("QuotedRiver$Chances", "top", "I", false)
  | _ => ("QuotedRiver$Chances", "whole", "J", false)
def tyX0 : Nat → FieldType := fun k => match k with
  | 0 => .array .long
  | 1 => .array .long
  | 2 => .int
  | _ => .long
abbrev wsX00 : List Cond := u_ws RX0 TX0 4
theorem nmX0 : ∀ a, a < 4 → ∀ b, b < 4 → a ≠ b → (TX0 a).2.1 ≠ (TX0 b).2.1 := by decide +kernel
theorem tyX0_ok : ∀ k, k < 4 → parseFieldDescriptor (TX0 k).2.2.1 = some (tyX0 k) := by decide +kernel
abbrev cX0_init : ByteArray := prog_2_method_1_code
def yX0_init : MethodName := ⟨RX0, "<init>", "()V"⟩
abbrev cX0_begin : ByteArray := prog_2_method_2_code
def yX0_begin : MethodName := ⟨RX0, "begin", "(I)V"⟩
abbrev cX0_advance : ByteArray := prog_2_method_3_code
def yX0_advance : MethodName := ⟨RX0, "advance", "(III)V"⟩
abbrev cX0_clear : ByteArray := prog_2_method_4_code
def yX0_clear : MethodName := ⟨RX0, "clear", "([JI)V"⟩
abbrev cX0_addWeight : ByteArray := prog_2_method_5_code
def yX0_addWeight : MethodName := ⟨RX0, "addWeight", "([JIJ)V"⟩
abbrev cX0_weightBelow : ByteArray := prog_2_method_6_code
def yX0_weightBelow : MethodName := ⟨RX0, "weightBelow", "(I)J"⟩
abbrev cX0_weightedSum : ByteArray := prog_2_method_7_code
def yX0_weightedSum : MethodName := ⟨RX0, "weightedSum", "()J"⟩
def RX1 : String := "QuotedRiver$Reader"
def TX1 : u_T := fun k => match k with
  | 0 => ("QuotedRiver$Reader", "tokens", "LQuotedRiver$Tokens;", true)
  | 1 => ("QuotedRiver$Reader", "rivers", "LQuotedRiver$Rivers;", true)
  | 2 => ("QuotedRiver$Reader", "fault", "I", false)
  | 3 => ("QuotedRiver$Reader", "faultPlace", "I", false)
  | 4 => ("QuotedRiver$Reader", "kind", "I", false)
  | _ => ("QuotedRiver$Reader", "next", "I", false)
def tyX1 : Nat → FieldType := fun k => match k with
  | 0 => .object "QuotedRiver$Tokens"
  | 1 => .object "QuotedRiver$Rivers"
  | 2 => .int
  | 3 => .int
  | 4 => .int
  | _ => .int
abbrev wsX10 : List Cond := u_ws RX1 TX1 6
theorem nmX1 : ∀ a, a < 6 → ∀ b, b < 6 → a ≠ b → (TX1 a).2.1 ≠ (TX1 b).2.1 := by decide +kernel
theorem tyX1_ok : ∀ k, k < 6 → parseFieldDescriptor (TX1 k).2.2.1 = some (tyX1 k) := by decide +kernel
abbrev cX1_init : ByteArray := prog_3_method_1_code
def yX1_init : MethodName := ⟨RX1, "<init>", "()V"⟩
abbrev cX1_read : ByteArray := prog_3_method_2_code
def yX1_read : MethodName := ⟨RX1, "read", "(LQuotedRiver$Tape;)V"⟩
abbrev cX1_readRivers : ByteArray := prog_3_method_3_code
def yX1_readRivers : MethodName := ⟨RX1, "readRivers", "()V"⟩
abbrev cX1_readReach : ByteArray := prog_3_method_4_code
def yX1_readReach : MethodName := ⟨RX1, "readReach", "()V"⟩
abbrev cX1_readJoin : ByteArray := prog_3_method_5_code
def yX1_readJoin : MethodName := ⟨RX1, "readJoin", "()V"⟩
abbrev cX1_readRain : ByteArray := prog_3_method_6_code
def yX1_readRain : MethodName := ⟨RX1, "readRain", "()V"⟩
abbrev cX1_claim : ByteArray := prog_3_method_7_code
def yX1_claim : MethodName := ⟨RX1, "claim", "(II)I"⟩
abbrev cX1_takeNumber : ByteArray := prog_3_method_8_code
def yX1_takeNumber : MethodName := ⟨RX1, "takeNumber", "(III)I"⟩
abbrev cX1_takeValue : ByteArray := prog_3_method_9_code
def yX1_takeValue : MethodName := ⟨RX1, "takeValue", "(II)I"⟩
abbrev cX1_take : ByteArray := prog_3_method_10_code
def yX1_take : MethodName := ⟨RX1, "take", "(I)V"⟩
abbrev cX1_blame : ByteArray := prog_3_method_11_code
def yX1_blame : MethodName := ⟨RX1, "blame", "(I)V"⟩
def RX2 : String := "QuotedRiver$Rivers"
def TX2 : u_T := fun k => match k with
  | 0 => ("QuotedRiver$Rivers", "told", "Z", false)
  | 1 => ("QuotedRiver$Rivers", "level", "I", false)
  | 2 => ("QuotedRiver$Rivers", "odds", "I", false)
  | 3 => ("QuotedRiver$Rivers", "swell", "I", false)
  | 4 => ("QuotedRiver$Rivers", "reaches", "I", false)
  | 5 => ("QuotedRiver$Rivers", "target", "[I", true)
  | 6 => ("QuotedRiver$Rivers", "takes", "[I", true)
  | 7 => ("QuotedRiver$Rivers", "low", "[I", true)
  | 8 => ("QuotedRiver$Rivers", "joins", "I", false)
  | 9 => ("QuotedRiver$Rivers", "joinFrom", "[I", true)
  | 10 => ("QuotedRiver$Rivers", "joinTo", "[I", true)
  | 11 => ("QuotedRiver$Rivers", "joinEach", "[I", true)
  | 12 => ("QuotedRiver$Rivers", "joinAt", "[I", true)
  | 13 => ("QuotedRiver$Rivers", "rains", "I", false)
  | 14 => ("QuotedRiver$Rivers", "rainMuch", "[I", true)
  | 15 => ("QuotedRiver$Rivers", "rainStep", "[I", true)
  | 16 => ("QuotedRiver$Rivers", "acts", "I", false)
  | 17 => ("QuotedRiver$Rivers", "actKind", "[I", true)
  | 18 => ("QuotedRiver$Rivers", "actOn", "[I", true)
  | _ => ("QuotedRiver$Rivers", "actBy", "[I", true)
def tyX2 : Nat → FieldType := fun k => match k with
  | 0 => .boolean
  | 1 => .int
  | 2 => .int
  | 3 => .int
  | 4 => .int
  | 5 => .array .int
  | 6 => .array .int
  | 7 => .array .int
  | 8 => .int
  | 9 => .array .int
  | 10 => .array .int
  | 11 => .array .int
  | 12 => .array .int
  | 13 => .int
  | 14 => .array .int
  | 15 => .array .int
  | 16 => .int
  | 17 => .array .int
  | 18 => .array .int
  | _ => .array .int
abbrev wsX20 : List Cond := u_ws RX2 TX2 20
theorem nmX2 : ∀ a, a < 20 → ∀ b, b < 20 → a ≠ b → (TX2 a).2.1 ≠ (TX2 b).2.1 := by decide +kernel
theorem tyX2_ok : ∀ k, k < 20 → parseFieldDescriptor (TX2 k).2.2.1 = some (tyX2 k) := by decide +kernel
abbrev cX2_init : ByteArray := prog_4_method_1_code
def yX2_init : MethodName := ⟨RX2, "<init>", "()V"⟩
abbrev cX2_clear : ByteArray := prog_4_method_2_code
def yX2_clear : MethodName := ⟨RX2, "clear", "()V"⟩
abbrev cX2_become : ByteArray := prog_4_method_3_code
def yX2_become : MethodName := ⟨RX2, "become", "(LQuotedRiver$Rivers;)V"⟩
abbrev cX2_lines : ByteArray := prog_4_method_4_code
def yX2_lines : MethodName := ⟨RX2, "lines", "()I"⟩
abbrev cX2_sendToSea : ByteArray := prog_4_method_5_code
def yX2_sendToSea : MethodName := ⟨RX2, "sendToSea", "()V"⟩
abbrev cX2_addAct : ByteArray := prog_4_method_6_code
def yX2_addAct : MethodName := ⟨RX2, "addAct", "(III)V"⟩
abbrev cX2_takesTurn : ByteArray := prog_4_method_7_code
def yX2_takesTurn : MethodName := ⟨RX2, "takesTurn", "(II)Z"⟩
def RX3 : String := "QuotedRiver$Row"
def TX3 : u_T := fun k => match k with
  | 0 => ("QuotedRiver$Row", "there", "Z", false)
  | 1 => ("QuotedRiver$Row", "width", "I", false)
  | 2 => ("QuotedRiver$Row", "size", "I", false)
  | _ => ("QuotedRiver$Row", "numbers", "[J", true)
def tyX3 : Nat → FieldType := fun k => match k with
  | 0 => .boolean
  | 1 => .int
  | 2 => .int
  | _ => .array .long
abbrev wsX30 : List Cond := u_ws RX3 TX3 4
theorem nmX3 : ∀ a, a < 4 → ∀ b, b < 4 → a ≠ b → (TX3 a).2.1 ≠ (TX3 b).2.1 := by decide +kernel
theorem tyX3_ok : ∀ k, k < 4 → parseFieldDescriptor (TX3 k).2.2.1 = some (tyX3 k) := by decide +kernel
abbrev cX3_init : ByteArray := prog_5_method_1_code
def yX3_init : MethodName := ⟨RX3, "<init>", "()V"⟩
abbrev cX3_lay : ByteArray := prog_5_method_2_code
def yX3_lay : MethodName := ⟨RX3, "lay", "(II)V"⟩
abbrev cX3_number : ByteArray := prog_5_method_3_code
def yX3_number : MethodName := ⟨RX3, "number", "(I)J"⟩
abbrev cX3_store : ByteArray := prog_5_method_4_code
def yX3_store : MethodName := ⟨RX3, "store", "(IJ)V"⟩
abbrev cX3_reachesOver : ByteArray := prog_5_method_5_code
def yX3_reachesOver : MethodName := ⟨RX3, "reachesOver", "(II)Z"⟩
abbrev cX3_tellsSpots : ByteArray := prog_5_method_6_code
def yX3_tellsSpots : MethodName := ⟨RX3, "tellsSpots", "(I)Z"⟩
abbrev cX3_earliestStep : ByteArray := prog_5_method_7_code
def yX3_earliestStep : MethodName := ⟨RX3, "earliestStep", "()I"⟩
def RX4 : String := "QuotedRiver$Sources"
def TX4 : u_T := fun k => match k with
  | 0 => ("QuotedRiver$Sources", "pairs", "I", false)
  | 1 => ("QuotedRiver$Sources", "reaches", "I", false)
  | 2 => ("QuotedRiver$Sources", "first", "I", false)
  | _ => ("QuotedRiver$Sources", "tally", "[I", true)
def tyX4 : Nat → FieldType := fun k => match k with
  | 0 => .int
  | 1 => .int
  | 2 => .int
  | _ => .array .int
abbrev wsX40 : List Cond := u_ws RX4 TX4 4
theorem nmX4 : ∀ a, a < 4 → ∀ b, b < 4 → a ≠ b → (TX4 a).2.1 ≠ (TX4 b).2.1 := by decide +kernel
theorem tyX4_ok : ∀ k, k < 4 → parseFieldDescriptor (TX4 k).2.2.1 = some (tyX4 k) := by decide +kernel
abbrev cX4_init : ByteArray := prog_6_method_1_code
def yX4_init : MethodName := ⟨RX4, "<init>", "()V"⟩
abbrev cX4_clear : ByteArray := prog_6_method_2_code
def yX4_clear : MethodName := ⟨RX4, "clear", "()V"⟩
abbrev cX4_add : ByteArray := prog_6_method_3_code
def yX4_add : MethodName := ⟨RX4, "add", "(I)V"⟩
abbrev cX4_note : ByteArray := prog_6_method_4_code
def yX4_note : MethodName := ⟨RX4, "note", "(LQuotedRiver$Stick;)V"⟩
abbrev cX4_leftAtWorst : ByteArray := prog_6_method_5_code
def yX4_leftAtWorst : MethodName := ⟨RX4, "leftAtWorst", "(I)I"⟩
abbrev cX4_bestStep : ByteArray := prog_6_method_6_code
def yX4_bestStep : MethodName := ⟨RX4, "bestStep", "()I"⟩
abbrev cX4_leastLeft : ByteArray := prog_6_method_7_code
def yX4_leastLeft : MethodName := ⟨RX4, "leastLeft", "()I"⟩
def RX5 : String := "QuotedRiver$Stick"
def TX5 : u_T := fun k => match k with
  | 0 => ("QuotedRiver$Stick", "spots", "[I", true)
  | 1 => ("QuotedRiver$Stick", "visited", "I", false)
  | 2 => ("QuotedRiver$Stick", "newest", "I", false)
  | 3 => ("QuotedRiver$Stick", "revisit", "I", false)
  | 4 => ("QuotedRiver$Stick", "inSea", "I", false)
  | 5 => ("QuotedRiver$Stick", "stood", "I", false)
  | 6 => ("QuotedRiver$Stick", "departures", "I", false)
  | 7 => ("QuotedRiver$Stick", "byJoin", "I", false)
  | _ => ("QuotedRiver$Stick", "joinsTaken", "I", false)
def tyX5 : Nat → FieldType := fun k => match k with
  | 0 => .array .int
  | 1 => .int
  | 2 => .int
  | 3 => .int
  | 4 => .int
  | 5 => .int
  | 6 => .int
  | 7 => .int
  | _ => .int
abbrev wsX50 : List Cond := u_ws RX5 TX5 9
theorem nmX5 : ∀ a, a < 9 → ∀ b, b < 9 → a ≠ b → (TX5 a).2.1 ≠ (TX5 b).2.1 := by decide +kernel
theorem tyX5_ok : ∀ k, k < 9 → parseFieldDescriptor (TX5 k).2.2.1 = some (tyX5 k) := by decide +kernel
abbrev cX5_init : ByteArray := prog_7_method_1_code
def yX5_init : MethodName := ⟨RX5, "<init>", "()V"⟩
abbrev cX5_drift : ByteArray := prog_7_method_2_code
def yX5_drift : MethodName := ⟨RX5, "drift", "(LQuotedRiver$Rivers;LQuotedRiver$Water;II)V"⟩
abbrev cX5_forget : ByteArray := prog_7_method_3_code
def yX5_forget : MethodName := ⟨RX5, "forget", "(I)V"⟩
abbrev cX5_depart : ByteArray := prog_7_method_4_code
def yX5_depart : MethodName := ⟨RX5, "depart", "(LQuotedRiver$Rivers;III)I"⟩
abbrev cX5_arrive : ByteArray := prog_7_method_5_code
def yX5_arrive : MethodName := ⟨RX5, "arrive", "(II)V"⟩
abbrev cX5_spotAt : ByteArray := prog_7_method_6_code
def yX5_spotAt : MethodName := ⟨RX5, "spotAt", "(I)I"⟩
abbrev cX5_firstIn : ByteArray := prog_7_method_7_code
def yX5_firstIn : MethodName := ⟨RX5, "firstIn", "(I)I"⟩
abbrev cX5_visitedAhead : ByteArray := prog_7_method_8_code
def yX5_visitedAhead : MethodName := ⟨RX5, "visitedAhead", "(II)I"⟩
abbrev cX5_wasSeen : ByteArray := prog_7_method_9_code
def yX5_wasSeen : MethodName := ⟨RX5, "wasSeen", "(LQuotedRiver$Row;)Z"⟩
def RX6 : String := "QuotedRiver$Tape"
def TX6 : u_T := fun k => match k with
  | 0 => ("QuotedRiver$Tape", "bytes", "[I", true)
  | _ => ("QuotedRiver$Tape", "size", "I", false)
def tyX6 : Nat → FieldType := fun k => match k with
  | 0 => .array .int
  | _ => .int
abbrev wsX60 : List Cond := u_ws RX6 TX6 2
theorem nmX6 : ∀ a, a < 2 → ∀ b, b < 2 → a ≠ b → (TX6 a).2.1 ≠ (TX6 b).2.1 := by decide +kernel
theorem tyX6_ok : ∀ k, k < 2 → parseFieldDescriptor (TX6 k).2.2.1 = some (tyX6 k) := by decide +kernel
abbrev cX6_init : ByteArray := prog_8_method_1_code
def yX6_init : MethodName := ⟨RX6, "<init>", "()V"⟩
abbrev cX6_append : ByteArray := prog_8_method_2_code
def yX6_append : MethodName := ⟨RX6, "append", "(I)V"⟩
abbrev cX6_byteAt : ByteArray := prog_8_method_3_code
def yX6_byteAt : MethodName := ⟨RX6, "byteAt", "(I)I"⟩
abbrev cX6_says : ByteArray := prog_8_method_4_code
def yX6_says : MethodName := ⟨RX6, "says", "(Ljava/lang/String;I)Z"⟩
def RX7 : String := "QuotedRiver$Tokens"
def TX7 : u_T := fun k => match k with
  | 0 => ("QuotedRiver$Tokens", "kinds", "[I", true)
  | 1 => ("QuotedRiver$Tokens", "places", "[I", true)
  | 2 => ("QuotedRiver$Tokens", "values", "[I", true)
  | _ => ("QuotedRiver$Tokens", "size", "I", false)
def tyX7 : Nat → FieldType := fun k => match k with
  | 0 => .array .int
  | 1 => .array .int
  | 2 => .array .int
  | _ => .int
abbrev wsX70 : List Cond := u_ws RX7 TX7 4
theorem nmX7 : ∀ a, a < 4 → ∀ b, b < 4 → a ≠ b → (TX7 a).2.1 ≠ (TX7 b).2.1 := by decide +kernel
theorem tyX7_ok : ∀ k, k < 4 → parseFieldDescriptor (TX7 k).2.2.1 = some (tyX7 k) := by decide +kernel
abbrev cX7_init : ByteArray := prog_9_method_1_code
def yX7_init : MethodName := ⟨RX7, "<init>", "()V"⟩
abbrev cX7_scan : ByteArray := prog_9_method_2_code
def yX7_scan : MethodName := ⟨RX7, "scan", "(LQuotedRiver$Tape;)V"⟩
abbrev cX7_scanToken : ByteArray := prog_9_method_3_code
def yX7_scanToken : MethodName := ⟨RX7, "scanToken", "(LQuotedRiver$Tape;I)I"⟩
abbrev cX7_add : ByteArray := prog_9_method_4_code
def yX7_add : MethodName := ⟨RX7, "add", "(III)V"⟩
abbrev cX7_valueOf : ByteArray := prog_9_method_5_code
def yX7_valueOf : MethodName := ⟨RX7, "valueOf", "(LQuotedRiver$Tape;II)I"⟩
abbrev cX7_wordKind : ByteArray := prog_9_method_6_code
def yX7_wordKind : MethodName := ⟨RX7, "wordKind", "(LQuotedRiver$Tape;II)I"⟩
abbrev cX7_isBlank : ByteArray := prog_9_method_7_code
def yX7_isBlank : MethodName := ⟨RX7, "isBlank", "(I)Z"⟩
abbrev cX7_isLetter : ByteArray := prog_9_method_8_code
def yX7_isLetter : MethodName := ⟨RX7, "isLetter", "(I)Z"⟩
abbrev cX7_isDigit : ByteArray := prog_9_method_9_code
def yX7_isDigit : MethodName := ⟨RX7, "isDigit", "(I)Z"⟩
def RX8 : String := "QuotedRiver$Water"
def TX8 : u_T := fun k => match k with
  | 0 => ("QuotedRiver$Water", "rains", "[I", true)
  | 1 => ("QuotedRiver$Water", "levels", "[I", true)
  | _ => ("QuotedRiver$Water", "shutJoins", "I", false)
def tyX8 : Nat → FieldType := fun k => match k with
  | 0 => .array .int
  | 1 => .array .int
  | _ => .int
abbrev wsX80 : List Cond := u_ws RX8 TX8 3
theorem nmX8 : ∀ a, a < 3 → ∀ b, b < 3 → a ≠ b → (TX8 a).2.1 ≠ (TX8 b).2.1 := by decide +kernel
theorem tyX8_ok : ∀ k, k < 3 → parseFieldDescriptor (TX8 k).2.2.1 = some (tyX8 k) := by decide +kernel
abbrev cX8_init : ByteArray := prog_10_method_1_code
def yX8_init : MethodName := ⟨RX8, "<init>", "()V"⟩
abbrev cX8_rainAt : ByteArray := prog_10_method_2_code
def yX8_rainAt : MethodName := ⟨RX8, "rainAt", "(I)I"⟩
abbrev cX8_levelAt : ByteArray := prog_10_method_3_code
def yX8_levelAt : MethodName := ⟨RX8, "levelAt", "(I)I"⟩
abbrev cX8_addRain : ByteArray := prog_10_method_4_code
def yX8_addRain : MethodName := ⟨RX8, "addRain", "(II)V"⟩
abbrev cX8_become : ByteArray := prog_10_method_5_code
def yX8_become : MethodName := ⟨RX8, "become", "(LQuotedRiver$Water;)V"⟩
abbrev cX8_settle : ByteArray := prog_10_method_6_code
def yX8_settle : MethodName := ⟨RX8, "settle", "(LQuotedRiver$Rivers;)V"⟩
abbrev cX8_redo : ByteArray := prog_10_method_7_code
def yX8_redo : MethodName := ⟨RX8, "redo", "(III)V"⟩
abbrev cX8_fall : ByteArray := prog_10_method_8_code
def yX8_fall : MethodName := ⟨RX8, "fall", "(I)V"⟩
def RX9 : String := "QuotedRiver"
def TX9 : u_T := fun k => match k with
  | 0 => ("QuotedRiver", "tape", "LQuotedRiver$Tape;", true)
  | 1 => ("QuotedRiver", "reader", "LQuotedRiver$Reader;", true)
  | 2 => ("QuotedRiver", "now", "LQuotedRiver$Rivers;", true)
  | 3 => ("QuotedRiver", "tried", "LQuotedRiver$Rivers;", true)
  | 4 => ("QuotedRiver", "images", "[LQuotedRiver$Rivers;", true)
  | 5 => ("QuotedRiver", "imagesKept", "I", false)
  | 6 => ("QuotedRiver", "water", "LQuotedRiver$Water;", true)
  | 7 => ("QuotedRiver", "trial", "LQuotedRiver$Water;", true)
  | 8 => ("QuotedRiver", "stick", "LQuotedRiver$Stick;", true)
  | 9 => ("QuotedRiver", "mate", "LQuotedRiver$Stick;", true)
  | 10 => ("QuotedRiver", "rows", "[LQuotedRiver$Row;", true)
  | 11 => ("QuotedRiver", "found", "LQuotedRiver$Sources;", true)
  | 12 => ("QuotedRiver", "chances", "LQuotedRiver$Chances;", true)
  | _ => ("QuotedRiver", "scratch", "[I", true)
def tyX9 : Nat → FieldType := fun k => match k with
  | 0 => .object "QuotedRiver$Tape"
  | 1 => .object "QuotedRiver$Reader"
  | 2 => .object "QuotedRiver$Rivers"
  | 3 => .object "QuotedRiver$Rivers"
  | 4 => .array (.object "QuotedRiver$Rivers")
  | 5 => .int
  | 6 => .object "QuotedRiver$Water"
  | 7 => .object "QuotedRiver$Water"
  | 8 => .object "QuotedRiver$Stick"
  | 9 => .object "QuotedRiver$Stick"
  | 10 => .array (.object "QuotedRiver$Row")
  | 11 => .object "QuotedRiver$Sources"
  | 12 => .object "QuotedRiver$Chances"
  | _ => .array .int
abbrev wsX90 : List Cond := u_ws RX9 TX9 14
theorem nmX9 : ∀ a, a < 14 → ∀ b, b < 14 → a ≠ b → (TX9 a).2.1 ≠ (TX9 b).2.1 := by decide +kernel
theorem tyX9_ok : ∀ k, k < 14 → parseFieldDescriptor (TX9 k).2.2.1 = some (tyX9 k) := by decide +kernel
abbrev cX9_init : ByteArray := prog_1_method_1_code
def yX9_init : MethodName := ⟨RX9, "<init>", "()V"⟩
abbrev cX9_feed : ByteArray := prog_1_method_2_code
def yX9_feed : MethodName := ⟨RX9, "feed", "(IIIII)I"⟩
abbrev cX9_end : ByteArray := prog_1_method_3_code
def yX9_end : MethodName := ⟨RX9, "end", "(I)I"⟩
abbrev cX9_rivers : ByteArray := prog_1_method_4_code
def yX9_rivers : MethodName := ⟨RX9, "rivers", "()I"⟩
abbrev cX9_fault : ByteArray := prog_1_method_5_code
def yX9_fault : MethodName := ⟨RX9, "fault", "(I)I"⟩
abbrev cX9_reach : ByteArray := prog_1_method_6_code
def yX9_reach : MethodName := ⟨RX9, "reach", "(II)I"⟩
abbrev cX9_join : ByteArray := prog_1_method_7_code
def yX9_join : MethodName := ⟨RX9, "join", "(II)I"⟩
abbrev cX9_rain : ByteArray := prog_1_method_8_code
def yX9_rain : MethodName := ⟨RX9, "rain", "(II)I"⟩
abbrev cX9_level : ByteArray := prog_1_method_9_code
def yX9_level : MethodName := ⟨RX9, "level", "(I)I"⟩
abbrev cX9_stands : ByteArray := prog_1_method_10_code
def yX9_stands : MethodName := ⟨RX9, "stands", "(I)I"⟩
abbrev cX9_flows : ByteArray := prog_1_method_11_code
def yX9_flows : MethodName := ⟨RX9, "flows", "(I)I"⟩
abbrev cX9_dry : ByteArray := prog_1_method_12_code
def yX9_dry : MethodName := ⟨RX9, "dry", "(I)I"⟩
abbrev cX9_drought : ByteArray := prog_1_method_13_code
def yX9_drought : MethodName := ⟨RX9, "drought", "(I)I"⟩
abbrev cX9_idle : ByteArray := prog_1_method_14_code
def yX9_idle : MethodName := ⟨RX9, "idle", "(I)I"⟩
abbrev cX9_rained : ByteArray := prog_1_method_15_code
def yX9_rained : MethodName := ⟨RX9, "rained", "(I)I"⟩
abbrev cX9_lowest : ByteArray := prog_1_method_16_code
def yX9_lowest : MethodName := ⟨RX9, "lowest", "()I"⟩
abbrev cX9_deeper : ByteArray := prog_1_method_17_code
def yX9_deeper : MethodName := ⟨RX9, "deeper", "()I"⟩
abbrev cX9_where : ByteArray := prog_1_method_18_code
def yX9_where : MethodName := ⟨RX9, "where", "(III)I"⟩
abbrev cX9_sea : ByteArray := prog_1_method_19_code
def yX9_sea : MethodName := ⟨RX9, "sea", "(II)I"⟩
abbrev cX9_comes : ByteArray := prog_1_method_20_code
def yX9_comes : MethodName := ⟨RX9, "comes", "(III)I"⟩
abbrev cX9_way : ByteArray := prog_1_method_21_code
def yX9_way : MethodName := ⟨RX9, "way", "(II)I"⟩
abbrev cX9_leaves : ByteArray := prog_1_method_22_code
def yX9_leaves : MethodName := ⟨RX9, "leaves", "(II)I"⟩
abbrev cX9_waits : ByteArray := prog_1_method_23_code
def yX9_waits : MethodName := ⟨RX9, "waits", "(II)I"⟩
abbrev cX9_jumps : ByteArray := prog_1_method_24_code
def yX9_jumps : MethodName := ⟨RX9, "jumps", "(II)I"⟩
abbrev cX9_finds : ByteArray := prog_1_method_25_code
def yX9_finds : MethodName := ⟨RX9, "finds", "(II)I"⟩
abbrev cX9_used : ByteArray := prog_1_method_26_code
def yX9_used : MethodName := ⟨RX9, "used", "(II)I"⟩
abbrev cX9_again : ByteArray := prog_1_method_27_code
def yX9_again : MethodName := ⟨RX9, "again", "(II)I"⟩
abbrev cX9_from : ByteArray := prog_1_method_28_code
def yX9_from : MethodName := ⟨RX9, "from", "(II)I"⟩
abbrev cX9_ends : ByteArray := prog_1_method_29_code
def yX9_ends : MethodName := ⟨RX9, "ends", "(I)I"⟩
abbrev cX9_together : ByteArray := prog_1_method_30_code
def yX9_together : MethodName := ⟨RX9, "together", "(II)I"⟩
abbrev cX9_meet : ByteArray := prog_1_method_31_code
def yX9_meet : MethodName := ⟨RX9, "meet", "(II)I"⟩
abbrev cX9_alike : ByteArray := prog_1_method_32_code
def yX9_alike : MethodName := ⟨RX9, "alike", "(II)I"⟩
abbrev cX9_busy : ByteArray := prog_1_method_33_code
def yX9_busy : MethodName := ⟨RX9, "busy", "(I)I"⟩
abbrev cX9_mouths : ByteArray := prog_1_method_34_code
def yX9_mouths : MethodName := ⟨RX9, "mouths", "()I"⟩
abbrev cX9_springs : ByteArray := prog_1_method_35_code
def yX9_springs : MethodName := ⟨RX9, "springs", "()I"⟩
abbrev cX9_depth : ByteArray := prog_1_method_36_code
def yX9_depth : MethodName := ⟨RX9, "depth", "(I)I"⟩
abbrev cX9_rings : ByteArray := prog_1_method_37_code
def yX9_rings : MethodName := ⟨RX9, "rings", "()I"⟩
abbrev cX9_goes : ByteArray := prog_1_method_38_code
def yX9_goes : MethodName := ⟨RX9, "goes", "(II)I"⟩
abbrev cX9_can : ByteArray := prog_1_method_39_code
def yX9_can : MethodName := ⟨RX9, "can", "(I)I"⟩
abbrev cX9_slowly : ByteArray := prog_1_method_40_code
def yX9_slowly : MethodName := ⟨RX9, "slowly", "(II)I"⟩
abbrev cX9_soon : ByteArray := prog_1_method_41_code
def yX9_soon : MethodName := ⟨RX9, "soon", "(II)I"⟩
abbrev cX9_quick : ByteArray := prog_1_method_42_code
def yX9_quick : MethodName := ⟨RX9, "quick", "(II)I"⟩
abbrev cX9_quickly : ByteArray := prog_1_method_43_code
def yX9_quickly : MethodName := ⟨RX9, "quickly", "(II)I"⟩
abbrev cX9_late : ByteArray := prog_1_method_44_code
def yX9_late : MethodName := ⟨RX9, "late", "(III)I"⟩
abbrev cX9_often : ByteArray := prog_1_method_45_code
def yX9_often : MethodName := ⟨RX9, "often", "(II)I"⟩
abbrev cX9_stop : ByteArray := prog_1_method_46_code
def yX9_stop : MethodName := ⟨RX9, "stop", "(II)I"⟩
abbrev cX9_stops : ByteArray := prog_1_method_47_code
def yX9_stops : MethodName := ⟨RX9, "stops", "(II)I"⟩
abbrev cX9_shut : ByteArray := prog_1_method_48_code
def yX9_shut : MethodName := ⟨RX9, "shut", "(II)I"⟩
abbrev cX9_pour : ByteArray := prog_1_method_49_code
def yX9_pour : MethodName := ⟨RX9, "pour", "(III)I"⟩
abbrev cX9_fits : ByteArray := prog_1_method_50_code
def yX9_fits : MethodName := ⟨RX9, "fits", "(I)I"⟩
abbrev cX9_sources : ByteArray := prog_1_method_51_code
def yX9_sources : MethodName := ⟨RX9, "sources", "(I)I"⟩
abbrev cX9_source : ByteArray := prog_1_method_52_code
def yX9_source : MethodName := ⟨RX9, "source", "(I)I"⟩
abbrev cX9_ask : ByteArray := prog_1_method_53_code
def yX9_ask : MethodName := ⟨RX9, "ask", "(I)I"⟩
abbrev cX9_doubts : ByteArray := prog_1_method_54_code
def yX9_doubts : MethodName := ⟨RX9, "doubts", "(I)I"⟩
abbrev cX9_turn : ByteArray := prog_1_method_55_code
def yX9_turn : MethodName := ⟨RX9, "turn", "(III)I"⟩
abbrev cX9_turned : ByteArray := prog_1_method_56_code
def yX9_turned : MethodName := ⟨RX9, "turned", "(III)I"⟩
abbrev cX9_answer : ByteArray := prog_1_method_57_code
def yX9_answer : MethodName := ⟨RX9, "answer", "(I)I"⟩
abbrev cX9_rests : ByteArray := prog_1_method_58_code
def yX9_rests : MethodName := ⟨RX9, "rests", "()I"⟩
abbrev cX9_rest : ByteArray := prog_1_method_59_code
def yX9_rest : MethodName := ⟨RX9, "rest", "()I"⟩
abbrev cX9_has : ByteArray := prog_1_method_60_code
def yX9_has : MethodName := ⟨RX9, "has", "(II)I"⟩
abbrev cX9_treaty : ByteArray := prog_1_method_61_code
def yX9_treaty : MethodName := ⟨RX9, "treaty", "()I"⟩
abbrev cX9_mean : ByteArray := prog_1_method_62_code
def yX9_mean : MethodName := ⟨RX9, "mean", "(II)J"⟩
abbrev cX9_chance : ByteArray := prog_1_method_63_code
def yX9_chance : MethodName := ⟨RX9, "chance", "(III)J"⟩
abbrev cX9_risk : ByteArray := prog_1_method_64_code
def yX9_risk : MethodName := ⟨RX9, "risk", "(II)I"⟩
abbrev cX9_drawn : ByteArray := prog_1_method_65_code
def yX9_drawn : MethodName := ⟨RX9, "drawn", "(II)I"⟩
abbrev cX9_luck : ByteArray := prog_1_method_66_code
def yX9_luck : MethodName := ⟨RX9, "luck", "(III)I"⟩
abbrev cX9_close : ByteArray := prog_1_method_67_code
def yX9_close : MethodName := ⟨RX9, "close", "(II)I"⟩
abbrev cX9_pours : ByteArray := prog_1_method_68_code
def yX9_pours : MethodName := ⟨RX9, "pours", "(II)I"⟩
abbrev cX9_undo : ByteArray := prog_1_method_69_code
def yX9_undo : MethodName := ⟨RX9, "undo", "()I"⟩
abbrev cX9_anew : ByteArray := prog_1_method_70_code
def yX9_anew : MethodName := ⟨RX9, "anew", "()I"⟩
abbrev cX9_deepen : ByteArray := prog_1_method_71_code
def yX9_deepen : MethodName := ⟨RX9, "deepen", "(II)I"⟩
abbrev cX9_count : ByteArray := prog_1_method_72_code
def yX9_count : MethodName := ⟨RX9, "count", "(I)I"⟩
abbrev cX9_image : ByteArray := prog_1_method_73_code
def yX9_image : MethodName := ⟨RX9, "image", "(I)I"⟩
abbrev cX9_back : ByteArray := prog_1_method_74_code
def yX9_back : MethodName := ⟨RX9, "back", "(I)I"⟩
abbrev cX9_row : ByteArray := prog_1_method_75_code
def yX9_row : MethodName := ⟨RX9, "row", "(III)I"⟩
abbrev cX9_write : ByteArray := prog_1_method_76_code
def yX9_write : MethodName := ⟨RX9, "write", "(IIJ)I"⟩
abbrev cX9_paste : ByteArray := prog_1_method_77_code
def yX9_paste : MethodName := ⟨RX9, "paste", "(IIIII)I"⟩
abbrev cX9_isStep : ByteArray := prog_1_method_78_code
def yX9_isStep : MethodName := ⟨RX9, "isStep", "(I)Z"⟩
abbrev cX9_hasStep : ByteArray := prog_1_method_79_code
def yX9_hasStep : MethodName := ⟨RX9, "hasStep", "(I)Z"⟩
abbrev cX9_hasChance : ByteArray := prog_1_method_80_code
def yX9_hasChance : MethodName := ⟨RX9, "hasChance", "(I)Z"⟩
abbrev cX9_isReach : ByteArray := prog_1_method_81_code
def yX9_isReach : MethodName := ⟨RX9, "isReach", "(I)Z"⟩
abbrev cX9_isJoin : ByteArray := prog_1_method_82_code
def yX9_isJoin : MethodName := ⟨RX9, "isJoin", "(I)Z"⟩
abbrev cX9_isSeed : ByteArray := prog_1_method_83_code
def yX9_isSeed : MethodName := ⟨RX9, "isSeed", "(I)Z"⟩
abbrev cX9_isLetOut : ByteArray := prog_1_method_84_code
def yX9_isLetOut : MethodName := ⟨RX9, "isLetOut", "(I)Z"⟩
abbrev cX9_rowOf : ByteArray := prog_1_method_85_code
def yX9_rowOf : MethodName := ⟨RX9, "rowOf", "(I)LQuotedRiver$Row;"⟩
abbrev cX9_imageOf : ByteArray := prog_1_method_86_code
def yX9_imageOf : MethodName := ⟨RX9, "imageOf", "(I)LQuotedRiver$Rivers;"⟩
abbrev cX9_rowsThere : ByteArray := prog_1_method_87_code
def yX9_rowsThere : MethodName := ⟨RX9, "rowsThere", "()I"⟩
abbrev cX9_isStanding : ByteArray := prog_1_method_88_code
def yX9_isStanding : MethodName := ⟨RX9, "isStanding", "(II)Z"⟩
abbrev cX9_standing : ByteArray := prog_1_method_89_code
def yX9_standing : MethodName := ⟨RX9, "standing", "(I)I"⟩
abbrev cX9_allReaches : ByteArray := prog_1_method_90_code
def yX9_allReaches : MethodName := ⟨RX9, "allReaches", "()I"⟩
abbrev cX9_leastStep : ByteArray := prog_1_method_91_code
def yX9_leastStep : MethodName := ⟨RX9, "leastStep", "()I"⟩
abbrev cX9_isInRing : ByteArray := prog_1_method_92_code
def yX9_isInRing : MethodName := ⟨RX9, "isInRing", "(I)Z"⟩
abbrev cX9_putIn : ByteArray := prog_1_method_93_code
def yX9_putIn : MethodName := ⟨RX9, "putIn", "(II)Z"⟩
abbrev cX9_putBothIn : ByteArray := prog_1_method_94_code
def yX9_putBothIn : MethodName := ⟨RX9, "putBothIn", "(II)Z"⟩
abbrev cX9_shareReach : ByteArray := prog_1_method_95_code
def yX9_shareReach : MethodName := ⟨RX9, "shareReach", "(I)Z"⟩
abbrev cX9_coming : ByteArray := prog_1_method_96_code
def yX9_coming : MethodName := ⟨RX9, "coming", "(III)I"⟩
abbrev cX9_quickestStep : ByteArray := prog_1_method_97_code
def yX9_quickestStep : MethodName := ⟨RX9, "quickestStep", "(II)I"⟩
abbrev cX9_stoppingSet : ByteArray := prog_1_method_98_code
def yX9_stoppingSet : MethodName := ⟨RX9, "stoppingSet", "(II)I"⟩
abbrev cX9_noteWays : ByteArray := prog_1_method_99_code
def yX9_noteWays : MethodName := ⟨RX9, "noteWays", "(II)I"⟩
abbrev cX9_cutsAll : ByteArray := prog_1_method_100_code
def yX9_cutsAll : MethodName := ⟨RX9, "cutsAll", "(II)Z"⟩
abbrev cX9_refuseSeen : ByteArray := prog_1_method_101_code
def yX9_refuseSeen : MethodName := ⟨RX9, "refuseSeen", "(I)I"⟩
abbrev cX9_refuseTurn : ByteArray := prog_1_method_102_code
def yX9_refuseTurn : MethodName := ⟨RX9, "refuseTurn", "(III)I"⟩
abbrev cX9_search : ByteArray := prog_1_method_103_code
def yX9_search : MethodName := ⟨RX9, "search", "(I)LQuotedRiver$Sources;"⟩
abbrev cX9_searchTurns : ByteArray := prog_1_method_104_code
def yX9_searchTurns : MethodName := ⟨RX9, "searchTurns", "(III)LQuotedRiver$Sources;"⟩
abbrev cX9_share : ByteArray := prog_1_method_105_code
def yX9_share : MethodName := ⟨RX9, "share", "(II)I"⟩
abbrev cX9_bestAnswer : ByteArray := prog_1_method_106_code
def yX9_bestAnswer : MethodName := ⟨RX9, "bestAnswer", "(I)I"⟩
abbrev cX9_isRest : ByteArray := prog_1_method_107_code
def yX9_isRest : MethodName := ⟨RX9, "isRest", "(II)Z"⟩
abbrev cX9_weighTo : ByteArray := prog_1_method_108_code
def yX9_weighTo : MethodName := ⟨RX9, "weighTo", "(I)V"⟩
abbrev cX9_weighNext : ByteArray := prog_1_method_109_code
def yX9_weighNext : MethodName := ⟨RX9, "weighNext", "(I)V"⟩
abbrev cX9_toldFraction : ByteArray := prog_1_method_110_code
def yX9_toldFraction : MethodName := ⟨RX9, "toldFraction", "(JJI)J"⟩
abbrev cX9_commonDivisor : ByteArray := prog_1_method_111_code
def yX9_commonDivisor : MethodName := ⟨RX9, "commonDivisor", "(JJ)J"⟩
abbrev cX9_drawDay : ByteArray := prog_1_method_112_code
def yX9_drawDay : MethodName := ⟨RX9, "drawDay", "(J)I"⟩
abbrev cX9_bit : ByteArray := prog_1_method_113_code
def yX9_bit : MethodName := ⟨RX9, "bit", "(I)I"⟩
abbrev cX9_pick : ByteArray := prog_1_method_114_code
def yX9_pick : MethodName := ⟨RX9, "pick", "([II)I"⟩
abbrev cX9_put : ByteArray := prog_1_method_115_code
def yX9_put : MethodName := ⟨RX9, "put", "([III)V"⟩
abbrev cX9_copy : ByteArray := prog_1_method_116_code
def yX9_copy : MethodName := ⟨RX9, "copy", "([I[I)V"⟩
abbrev cX9_cut : ByteArray := prog_1_method_117_code
def yX9_cut : MethodName := ⟨RX9, "cut", "(JI)J"⟩
def RX10 : String := "QuotedRiverModel"
def TX10 : u_T := fun k => match k with
  | 0 => ("QuotedRiverModel", "thrown", "I", false)
  | 1 => ("QuotedRiverModel", "world", "[I", true)
  | 2 => ("QuotedRiverModel", "images", "[I", true)
  | 3 => ("QuotedRiverModel", "hasImage", "[Z", true)
  | 4 => ("QuotedRiverModel", "tape", "[B", true)
  | 5 => ("QuotedRiverModel", "taped", "I", false)
  | 6 => ("QuotedRiverModel", "five", "[I", true)
  | 7 => ("QuotedRiverModel", "size", "I", false)
  | 8 => ("QuotedRiverModel", "at", "I", false)
  | 9 => ("QuotedRiverModel", "from", "I", false)
  | 10 => ("QuotedRiverModel", "token", "I", false)
  | 11 => ("QuotedRiverModel", "value", "I", false)
  | 12 => ("QuotedRiverModel", "faultKind", "I", false)
  | 13 => ("QuotedRiverModel", "faultPlace", "I", false)
  | 14 => ("QuotedRiverModel", "fresh", "[I", true)
  | 15 => ("QuotedRiverModel", "rainAt", "[I", true)
  | 16 => ("QuotedRiverModel", "levelAt", "[I", true)
  | 17 => ("QuotedRiverModel", "standsAt", "[I", true)
  | 18 => ("QuotedRiverModel", "eachOf", "[I", true)
  | 19 => ("QuotedRiverModel", "turnOf", "[I", true)
  | 20 => ("QuotedRiverModel", "shutSet", "I", false)
  | 21 => ("QuotedRiverModel", "stopped", "I", false)
  | 22 => ("QuotedRiverModel", "whereAt", "[I", true)
  | 23 => ("QuotedRiverModel", "arrives", "[Z", true)
  | 24 => ("QuotedRiverModel", "leftMany", "I", false)
  | 25 => ("QuotedRiverModel", "joinMany", "I", false)
  | 26 => ("QuotedRiverModel", "joinSet", "I", false)
  | 27 => ("QuotedRiverModel", "wasAt", "[I", true)
  | 28 => ("QuotedRiverModel", "manyIn", "[I", true)
  | 29 => ("QuotedRiverModel", "quickFrom", "I", false)
  | 30 => ("QuotedRiverModel", "pairs", "[I", true)
  | 31 => ("QuotedRiverModel", "wasBy", "[B", true)
  | 32 => ("QuotedRiverModel", "pairMany", "I", false)
  | 33 => ("QuotedRiverModel", "askWorst", "I", false)
  | 34 => ("QuotedRiverModel", "turnFirst", "I", false)
  | 35 => ("QuotedRiverModel", "weightNow", "[J", true)
  | 36 => ("QuotedRiverModel", "weightThen", "[J", true)
  | 37 => ("QuotedRiverModel", "rainMany", "I", false)
  | 38 => ("QuotedRiverModel", "many", "[I", true)
  | 39 => ("QuotedRiverModel", "width", "[I", true)
  | 40 => ("QuotedRiverModel", "numbers", "[J", true)
  | _ => ("QuotedRiverModel", "moving", "[J", true)
def tyX10 : Nat → FieldType := fun k => match k with
  | 0 => .int
  | 1 => .array .int
  | 2 => .array .int
  | 3 => .array .boolean
  | 4 => .array .byte
  | 5 => .int
  | 6 => .array .int
  | 7 => .int
  | 8 => .int
  | 9 => .int
  | 10 => .int
  | 11 => .int
  | 12 => .int
  | 13 => .int
  | 14 => .array .int
  | 15 => .array .int
  | 16 => .array .int
  | 17 => .array .int
  | 18 => .array .int
  | 19 => .array .int
  | 20 => .int
  | 21 => .int
  | 22 => .array .int
  | 23 => .array .boolean
  | 24 => .int
  | 25 => .int
  | 26 => .int
  | 27 => .array .int
  | 28 => .array .int
  | 29 => .int
  | 30 => .array .int
  | 31 => .array .byte
  | 32 => .int
  | 33 => .int
  | 34 => .int
  | 35 => .array .long
  | 36 => .array .long
  | 37 => .int
  | 38 => .array .int
  | 39 => .array .int
  | 40 => .array .long
  | _ => .array .long
abbrev wsX100 : List Cond := u_ws RX10 TX10 42
theorem nmX10 : ∀ a, a < 42 → ∀ b, b < 42 → a ≠ b → (TX10 a).2.1 ≠ (TX10 b).2.1 := by decide +kernel
theorem tyX10_ok : ∀ k, k < 42 → parseFieldDescriptor (TX10 k).2.2.1 = some (tyX10 k) := by decide +kernel
abbrev cX10_init : ByteArray := prog_12_method_1_code
def yX10_init : MethodName := ⟨RX10, "<init>", "()V"⟩
abbrev cX10_in : ByteArray := prog_12_method_3_code
def yX10_in : MethodName := ⟨RX10, "in", "(JJJ)Z"⟩
abbrev cX10_bits : ByteArray := prog_12_method_4_code
def yX10_bits : MethodName := ⟨RX10, "bits", "(I)I"⟩
abbrev cX10_bit : ByteArray := prog_12_method_5_code
def yX10_bit : MethodName := ⟨RX10, "bit", "(II)I"⟩
abbrev cX10_image : ByteArray := prog_12_method_6_code
def yX10_image : MethodName := ⟨RX10, "image", "(I)I"⟩
abbrev cX10_back : ByteArray := prog_12_method_7_code
def yX10_back : MethodName := ⟨RX10, "back", "(I)I"⟩
abbrev cX10_isRivers : ByteArray := prog_12_method_8_code
def yX10_isRivers : MethodName := ⟨RX10, "isRivers", "()Z"⟩
abbrev cX10_isReach : ByteArray := prog_12_method_9_code
def yX10_isReach : MethodName := ⟨RX10, "isReach", "(J)Z"⟩
abbrev cX10_isJoin : ByteArray := prog_12_method_10_code
def yX10_isJoin : MethodName := ⟨RX10, "isJoin", "(I)Z"⟩
abbrev cX10_isStep : ByteArray := prog_12_method_11_code
def yX10_isStep : MethodName := ⟨RX10, "isStep", "(J)Z"⟩
abbrev cX10_of : ByteArray := prog_12_method_12_code
def yX10_of : MethodName := ⟨RX10, "of", "(II)I"⟩
abbrev cX10_ofJoin : ByteArray := prog_12_method_13_code
def yX10_ofJoin : MethodName := ⟨RX10, "ofJoin", "(II)I"⟩
abbrev cX10_feed : ByteArray := prog_12_method_14_code
def yX10_feed : MethodName := ⟨RX10, "feed", "(IIIII)I"⟩
abbrev cX10_end : ByteArray := prog_12_method_15_code
def yX10_end : MethodName := ⟨RX10, "end", "(I)I"⟩
abbrev cX10_see : ByteArray := prog_12_method_16_code
def yX10_see : MethodName := ⟨RX10, "see", "(I)I"⟩
abbrev cX10_advance : ByteArray := prog_12_method_17_code
def yX10_advance : MethodName := ⟨RX10, "advance", "()V"⟩
abbrev cX10_good : ByteArray := prog_12_method_18_code
def yX10_good : MethodName := ⟨RX10, "good", "()Z"⟩
abbrev cX10_errs : ByteArray := prog_12_method_19_code
def yX10_errs : MethodName := ⟨RX10, "errs", "(I)V"⟩
abbrev cX10_is : ByteArray := prog_12_method_20_code
def yX10_is : MethodName := ⟨RX10, "is", "(Ljava/lang/String;)Z"⟩
abbrev cX10_takes : ByteArray := prog_12_method_21_code
def yX10_takes : MethodName := ⟨RX10, "takes", "(Ljava/lang/String;)Z"⟩
abbrev cX10_needs : ByteArray := prog_12_method_22_code
def yX10_needs : MethodName := ⟨RX10, "needs", "(Ljava/lang/String;)V"⟩
abbrev cX10_number : ByteArray := prog_12_method_23_code
def yX10_number : MethodName := ⟨RX10, "number", "(II)I"⟩
abbrev cX10_told : ByteArray := prog_12_method_24_code
def yX10_told : MethodName := ⟨RX10, "told", "(Ljava/lang/String;II)I"⟩
abbrev cX10_fault : ByteArray := prog_12_method_25_code
def yX10_fault : MethodName := ⟨RX10, "fault", "(I)I"⟩
abbrev cX10_readFirst : ByteArray := prog_12_method_26_code
def yX10_readFirst : MethodName := ⟨RX10, "readFirst", "()V"⟩
abbrev cX10_readReach : ByteArray := prog_12_method_27_code
def yX10_readReach : MethodName := ⟨RX10, "readReach", "()V"⟩
abbrev cX10_readJoin : ByteArray := prog_12_method_28_code
def yX10_readJoin : MethodName := ⟨RX10, "readJoin", "()V"⟩
abbrev cX10_readRain : ByteArray := prog_12_method_29_code
def yX10_readRain : MethodName := ⟨RX10, "readRain", "()V"⟩
abbrev cX10_readNext : ByteArray := prog_12_method_30_code
def yX10_readNext : MethodName := ⟨RX10, "readNext", "()V"⟩
abbrev cX10_readLine : ByteArray := prog_12_method_31_code
def yX10_readLine : MethodName := ⟨RX10, "readLine", "()V"⟩
abbrev cX10_rivers : ByteArray := prog_12_method_32_code
def yX10_rivers : MethodName := ⟨RX10, "rivers", "()I"⟩
abbrev cX10_reach : ByteArray := prog_12_method_33_code
def yX10_reach : MethodName := ⟨RX10, "reach", "(II)I"⟩
abbrev cX10_rain : ByteArray := prog_12_method_34_code
def yX10_rain : MethodName := ⟨RX10, "rain", "(II)I"⟩
abbrev cX10_join : ByteArray := prog_12_method_35_code
def yX10_join : MethodName := ⟨RX10, "join", "(II)I"⟩
abbrev cX10_layLevels : ByteArray := prog_12_method_36_code
def yX10_layLevels : MethodName := ⟨RX10, "layLevels", "()V"⟩
abbrev cX10_asItIs : ByteArray := prog_12_method_37_code
def yX10_asItIs : MethodName := ⟨RX10, "asItIs", "()V"⟩
abbrev cX10_asksRivers : ByteArray := prog_12_method_38_code
def yX10_asksRivers : MethodName := ⟨RX10, "asksRivers", "()Z"⟩
abbrev cX10_asksReach : ByteArray := prog_12_method_39_code
def yX10_asksReach : MethodName := ⟨RX10, "asksReach", "(I)Z"⟩
abbrev cX10_level : ByteArray := prog_12_method_40_code
def yX10_level : MethodName := ⟨RX10, "level", "(I)I"⟩
abbrev cX10_stands : ByteArray := prog_12_method_41_code
def yX10_stands : MethodName := ⟨RX10, "stands", "(I)I"⟩
abbrev cX10_dry : ByteArray := prog_12_method_42_code
def yX10_dry : MethodName := ⟨RX10, "dry", "(I)I"⟩
abbrev cX10_drought : ByteArray := prog_12_method_43_code
def yX10_drought : MethodName := ⟨RX10, "drought", "(I)I"⟩
abbrev cX10_flows : ByteArray := prog_12_method_44_code
def yX10_flows : MethodName := ⟨RX10, "flows", "(I)I"⟩
abbrev cX10_idle : ByteArray := prog_12_method_45_code
def yX10_idle : MethodName := ⟨RX10, "idle", "(I)I"⟩
abbrev cX10_rained : ByteArray := prog_12_method_46_code
def yX10_rained : MethodName := ⟨RX10, "rained", "(I)I"⟩
abbrev cX10_lowestOf : ByteArray := prog_12_method_47_code
def yX10_lowestOf : MethodName := ⟨RX10, "lowestOf", "()I"⟩
abbrev cX10_lowest : ByteArray := prog_12_method_48_code
def yX10_lowest : MethodName := ⟨RX10, "lowest", "()I"⟩
abbrev cX10_deeper : ByteArray := prog_12_method_49_code
def yX10_deeper : MethodName := ⟨RX10, "deeper", "()I"⟩
abbrev cX10_mouths : ByteArray := prog_12_method_50_code
def yX10_mouths : MethodName := ⟨RX10, "mouths", "()I"⟩
abbrev cX10_springs : ByteArray := prog_12_method_51_code
def yX10_springs : MethodName := ⟨RX10, "springs", "()I"⟩
abbrev cX10_depth : ByteArray := prog_12_method_52_code
def yX10_depth : MethodName := ⟨RX10, "depth", "(I)I"⟩
abbrev cX10_rings : ByteArray := prog_12_method_53_code
def yX10_rings : MethodName := ⟨RX10, "rings", "()I"⟩
abbrev cX10_goes : ByteArray := prog_12_method_54_code
def yX10_goes : MethodName := ⟨RX10, "goes", "(II)I"⟩
abbrev cX10_joinFrom : ByteArray := prog_12_method_55_code
def yX10_joinFrom : MethodName := ⟨RX10, "joinFrom", "(II)I"⟩
abbrev cX10_goStick : ByteArray := prog_12_method_56_code
def yX10_goStick : MethodName := ⟨RX10, "goStick", "(II)V"⟩
abbrev cX10_comesOf : ByteArray := prog_12_method_57_code
def yX10_comesOf : MethodName := ⟨RX10, "comesOf", "(II)I"⟩
abbrev cX10_putsIn : ByteArray := prog_12_method_58_code
def yX10_putsIn : MethodName := ⟨RX10, "putsIn", "(II)Z"⟩
abbrev cX10_where : ByteArray := prog_12_method_59_code
def yX10_where : MethodName := ⟨RX10, "where", "(III)I"⟩
abbrev cX10_sea : ByteArray := prog_12_method_60_code
def yX10_sea : MethodName := ⟨RX10, "sea", "(II)I"⟩
abbrev cX10_comes : ByteArray := prog_12_method_61_code
def yX10_comes : MethodName := ⟨RX10, "comes", "(III)I"⟩
abbrev cX10_way : ByteArray := prog_12_method_62_code
def yX10_way : MethodName := ⟨RX10, "way", "(II)I"⟩
abbrev cX10_leaves : ByteArray := prog_12_method_63_code
def yX10_leaves : MethodName := ⟨RX10, "leaves", "(II)I"⟩
abbrev cX10_waits : ByteArray := prog_12_method_64_code
def yX10_waits : MethodName := ⟨RX10, "waits", "(II)I"⟩
abbrev cX10_jumps : ByteArray := prog_12_method_65_code
def yX10_jumps : MethodName := ⟨RX10, "jumps", "(II)I"⟩
abbrev cX10_used : ByteArray := prog_12_method_66_code
def yX10_used : MethodName := ⟨RX10, "used", "(II)I"⟩
abbrev cX10_together : ByteArray := prog_12_method_67_code
def yX10_together : MethodName := ⟨RX10, "together", "(II)I"⟩
abbrev cX10_again : ByteArray := prog_12_method_68_code
def yX10_again : MethodName := ⟨RX10, "again", "(II)I"⟩
abbrev cX10_can : ByteArray := prog_12_method_69_code
def yX10_can : MethodName := ⟨RX10, "can", "(I)I"⟩
abbrev cX10_finds : ByteArray := prog_12_method_70_code
def yX10_finds : MethodName := ⟨RX10, "finds", "(II)I"⟩
abbrev cX10_from : ByteArray := prog_12_method_71_code
def yX10_from : MethodName := ⟨RX10, "from", "(II)I"⟩
abbrev cX10_ends : ByteArray := prog_12_method_72_code
def yX10_ends : MethodName := ⟨RX10, "ends", "(I)I"⟩
abbrev cX10_meet : ByteArray := prog_12_method_73_code
def yX10_meet : MethodName := ⟨RX10, "meet", "(II)I"⟩
abbrev cX10_alike : ByteArray := prog_12_method_74_code
def yX10_alike : MethodName := ⟨RX10, "alike", "(II)I"⟩
abbrev cX10_busy : ByteArray := prog_12_method_75_code
def yX10_busy : MethodName := ⟨RX10, "busy", "(I)I"⟩
abbrev cX10_areTwo : ByteArray := prog_12_method_76_code
def yX10_areTwo : MethodName := ⟨RX10, "areTwo", "(II)Z"⟩
abbrev cX10_soon : ByteArray := prog_12_method_77_code
def yX10_soon : MethodName := ⟨RX10, "soon", "(II)I"⟩
abbrev cX10_quickOf : ByteArray := prog_12_method_78_code
def yX10_quickOf : MethodName := ⟨RX10, "quickOf", "(II)I"⟩
abbrev cX10_quick : ByteArray := prog_12_method_79_code
def yX10_quick : MethodName := ⟨RX10, "quick", "(II)I"⟩
abbrev cX10_quickly : ByteArray := prog_12_method_80_code
def yX10_quickly : MethodName := ⟨RX10, "quickly", "(II)I"⟩
abbrev cX10_slowly : ByteArray := prog_12_method_81_code
def yX10_slowly : MethodName := ⟨RX10, "slowly", "(II)I"⟩
abbrev cX10_late : ByteArray := prog_12_method_82_code
def yX10_late : MethodName := ⟨RX10, "late", "(III)I"⟩
abbrev cX10_oftenOf : ByteArray := prog_12_method_83_code
def yX10_oftenOf : MethodName := ⟨RX10, "oftenOf", "(II)I"⟩
abbrev cX10_often : ByteArray := prog_12_method_84_code
def yX10_often : MethodName := ⟨RX10, "often", "(II)I"⟩
abbrev cX10_stopsOf : ByteArray := prog_12_method_85_code
def yX10_stopsOf : MethodName := ⟨RX10, "stopsOf", "(II)I"⟩
abbrev cX10_stop : ByteArray := prog_12_method_86_code
def yX10_stop : MethodName := ⟨RX10, "stop", "(II)I"⟩
abbrev cX10_stops : ByteArray := prog_12_method_87_code
def yX10_stops : MethodName := ⟨RX10, "stops", "(II)I"⟩
abbrev cX10_seaOf : ByteArray := prog_12_method_88_code
def yX10_seaOf : MethodName := ⟨RX10, "seaOf", "(II)I"⟩
abbrev cX10_shut : ByteArray := prog_12_method_89_code
def yX10_shut : MethodName := ⟨RX10, "shut", "(II)I"⟩
abbrev cX10_pour : ByteArray := prog_12_method_90_code
def yX10_pour : MethodName := ⟨RX10, "pour", "(III)I"⟩
abbrev cX10_numberAt : ByteArray := prog_12_method_91_code
def yX10_numberAt : MethodName := ⟨RX10, "numberAt", "(II)J"⟩
abbrev cX10_askSeen : ByteArray := prog_12_method_92_code
def yX10_askSeen : MethodName := ⟨RX10, "askSeen", "(IZ)I"⟩
abbrev cX10_isSeen : ByteArray := prog_12_method_93_code
def yX10_isSeen : MethodName := ⟨RX10, "isSeen", "(I)Z"⟩
abbrev cX10_layPairs : ByteArray := prog_12_method_94_code
def yX10_layPairs : MethodName := ⟨RX10, "layPairs", "(I)I"⟩
abbrev cX10_fits : ByteArray := prog_12_method_95_code
def yX10_fits : MethodName := ⟨RX10, "fits", "(I)I"⟩
abbrev cX10_sources : ByteArray := prog_12_method_96_code
def yX10_sources : MethodName := ⟨RX10, "sources", "(I)I"⟩
abbrev cX10_source : ByteArray := prog_12_method_97_code
def yX10_source : MethodName := ⟨RX10, "source", "(I)I"⟩
abbrev cX10_askOf : ByteArray := prog_12_method_98_code
def yX10_askOf : MethodName := ⟨RX10, "askOf", "()I"⟩
abbrev cX10_ask : ByteArray := prog_12_method_99_code
def yX10_ask : MethodName := ⟨RX10, "ask", "(I)I"⟩
abbrev cX10_doubts : ByteArray := prog_12_method_100_code
def yX10_doubts : MethodName := ⟨RX10, "doubts", "(I)I"⟩
abbrev cX10_layTurns : ByteArray := prog_12_method_101_code
def yX10_layTurns : MethodName := ⟨RX10, "layTurns", "(III)I"⟩
abbrev cX10_turn : ByteArray := prog_12_method_102_code
def yX10_turn : MethodName := ⟨RX10, "turn", "(III)I"⟩
abbrev cX10_turned : ByteArray := prog_12_method_103_code
def yX10_turned : MethodName := ⟨RX10, "turned", "(III)I"⟩
abbrev cX10_hasBy : ByteArray := prog_12_method_104_code
def yX10_hasBy : MethodName := ⟨RX10, "hasBy", "(II)I"⟩
abbrev cX10_isRest : ByteArray := prog_12_method_105_code
def yX10_isRest : MethodName := ⟨RX10, "isRest", "(II)Z"⟩
abbrev cX10_rests : ByteArray := prog_12_method_106_code
def yX10_rests : MethodName := ⟨RX10, "rests", "()I"⟩
abbrev cX10_rest : ByteArray := prog_12_method_107_code
def yX10_rest : MethodName := ⟨RX10, "rest", "()I"⟩
abbrev cX10_has : ByteArray := prog_12_method_108_code
def yX10_has : MethodName := ⟨RX10, "has", "(II)I"⟩
abbrev cX10_answer : ByteArray := prog_12_method_109_code
def yX10_answer : MethodName := ⟨RX10, "answer", "(I)I"⟩
abbrev cX10_treaty : ByteArray := prog_12_method_110_code
def yX10_treaty : MethodName := ⟨RX10, "treaty", "()I"⟩
abbrev cX10_startWeights : ByteArray := prog_12_method_111_code
def yX10_startWeights : MethodName := ⟨RX10, "startWeights", "()V"⟩
abbrev cX10_stepWeights : ByteArray := prog_12_method_112_code
def yX10_stepWeights : MethodName := ⟨RX10, "stepWeights", "(I)V"⟩
abbrev cX10_weightFrom : ByteArray := prog_12_method_113_code
def yX10_weightFrom : MethodName := ⟨RX10, "weightFrom", "(II)J"⟩
abbrev cX10_divisor : ByteArray := prog_12_method_114_code
def yX10_divisor : MethodName := ⟨RX10, "divisor", "(JJ)J"⟩
abbrev cX10_chance : ByteArray := prog_12_method_115_code
def yX10_chance : MethodName := ⟨RX10, "chance", "(III)J"⟩
abbrev cX10_mean : ByteArray := prog_12_method_116_code
def yX10_mean : MethodName := ⟨RX10, "mean", "(II)J"⟩
abbrev cX10_risk : ByteArray := prog_12_method_117_code
def yX10_risk : MethodName := ⟨RX10, "risk", "(II)I"⟩
abbrev cX10_keepAct : ByteArray := prog_12_method_118_code
def yX10_keepAct : MethodName := ⟨RX10, "keepAct", "(I)I"⟩
abbrev cX10_close : ByteArray := prog_12_method_119_code
def yX10_close : MethodName := ⟨RX10, "close", "(II)I"⟩
abbrev cX10_pours : ByteArray := prog_12_method_120_code
def yX10_pours : MethodName := ⟨RX10, "pours", "(II)I"⟩
abbrev cX10_undo : ByteArray := prog_12_method_121_code
def yX10_undo : MethodName := ⟨RX10, "undo", "()I"⟩
abbrev cX10_anew : ByteArray := prog_12_method_122_code
def yX10_anew : MethodName := ⟨RX10, "anew", "()I"⟩
abbrev cX10_goDrawn : ByteArray := prog_12_method_123_code
def yX10_goDrawn : MethodName := ⟨RX10, "goDrawn", "(J)V"⟩
abbrev cX10_isSeed : ByteArray := prog_12_method_124_code
def yX10_isSeed : MethodName := ⟨RX10, "isSeed", "(I)Z"⟩
abbrev cX10_drawn : ByteArray := prog_12_method_125_code
def yX10_drawn : MethodName := ⟨RX10, "drawn", "(II)I"⟩
abbrev cX10_luck : ByteArray := prog_12_method_126_code
def yX10_luck : MethodName := ⟨RX10, "luck", "(III)I"⟩
abbrev cX10_deepen : ByteArray := prog_12_method_127_code
def yX10_deepen : MethodName := ⟨RX10, "deepen", "(II)I"⟩
abbrev cX10_count : ByteArray := prog_12_method_128_code
def yX10_count : MethodName := ⟨RX10, "count", "(I)I"⟩
abbrev cX10_isSlot : ByteArray := prog_12_method_129_code
def yX10_isSlot : MethodName := ⟨RX10, "isSlot", "(I)Z"⟩
abbrev cX10_cut : ByteArray := prog_12_method_130_code
def yX10_cut : MethodName := ⟨RX10, "cut", "(JI)J"⟩
abbrev cX10_row : ByteArray := prog_12_method_131_code
def yX10_row : MethodName := ⟨RX10, "row", "(III)I"⟩
abbrev cX10_write : ByteArray := prog_12_method_132_code
def yX10_write : MethodName := ⟨RX10, "write", "(IIJ)I"⟩
abbrev cX10_paste : ByteArray := prog_12_method_133_code
def yX10_paste : MethodName := ⟨RX10, "paste", "(IIIII)I"⟩
def RJ6 : String := "java/lang/Integer"
def TJ6 : u_T := fun k => match k with
  | _ => ("", "", "", false)
def tyJ6 : Nat → FieldType := fun k => match k with
  | _ => .int
abbrev wsJ60 : List Cond := u_ws RJ6 TJ6 0
theorem nmJ6 : ∀ a, a < 0 → ∀ b, b < 0 → a ≠ b → (TJ6 a).2.1 ≠ (TJ6 b).2.1 := by decide +kernel
theorem tyJ6_ok : ∀ k, k < 0 → parseFieldDescriptor (TJ6 k).2.2.1 = some (tyJ6 k) := by decide +kernel
abbrev cJ6_bitCount_0f7a4 : ByteArray := prog_13_method_49_code
def yJ6_bitCount_0f7a4 : MethodName := ⟨RJ6, "bitCount", "(I)I"⟩
def RJ9 : String := "java/lang/Math"
def TJ9 : u_T := fun k => match k with
  | _ => ("", "", "", false)
def tyJ9 : Nat → FieldType := fun k => match k with
  | _ => .int
abbrev wsJ90 : List Cond := u_ws RJ9 TJ9 0
theorem nmJ9 : ∀ a, a < 0 → ∀ b, b < 0 → a ≠ b → (TJ9 a).2.1 ≠ (TJ9 b).2.1 := by decide +kernel
theorem tyJ9_ok : ∀ k, k < 0 → parseFieldDescriptor (TJ9 k).2.2.1 = some (tyJ9 k) := by decide +kernel
abbrev cJ9_max_7cf53 : ByteArray := prog_14_method_65_code
def yJ9_max_7cf53 : MethodName := ⟨RJ9, "max", "(II)I"⟩
abbrev cJ9_min_7cf53 : ByteArray := prog_14_method_69_code
def yJ9_min_7cf53 : MethodName := ⟨RJ9, "min", "(II)I"⟩
def RJ0 : String := "java/lang/String"
def TJ0 : u_T := fun k => match k with
  | _ => ("", "", "", false)
def tyJ0 : Nat → FieldType := fun k => match k with
  | _ => .int
abbrev wsJ00 : List Cond := u_ws RJ0 TJ0 0
theorem nmJ0 : ∀ a, a < 0 → ∀ b, b < 0 → a ≠ b → (TJ0 a).2.1 ≠ (TJ0 b).2.1 := by decide +kernel
theorem tyJ0_ok : ∀ k, k < 0 → parseFieldDescriptor (TJ0 k).2.2.1 = some (tyJ0 k) := by decide +kernel
abbrev cJ0_length_8abf5 : ByteArray := prog_15_method_54_code
def yJ0_length_8abf5 : MethodName := ⟨RJ0, "length", "()I"⟩
abbrev cJ0_charAt_5068e : ByteArray := prog_15_method_56_code
def yJ0_charAt_5068e : MethodName := ⟨RJ0, "charAt", "(I)C"⟩
abbrev cJ0_coder_7d493 : ByteArray := prog_15_method_152_code
def yJ0_coder_7d493 : MethodName := ⟨RJ0, "coder", "()B"⟩
abbrev cJ0_isLatin1_aae02 : ByteArray := prog_15_method_154_code
def yJ0_isLatin1_aae02 : MethodName := ⟨RJ0, "isLatin1", "()Z"⟩
abbrev cJ0_checkIndex_df160 : ByteArray := prog_15_method_155_code
def yJ0_checkIndex_df160 : MethodName := ⟨RJ0, "checkIndex", "(II)V"⟩
def RJ1 : String := "java/lang/StringLatin1"
def TJ1 : u_T := fun k => match k with
  | _ => ("", "", "", false)
def tyJ1 : Nat → FieldType := fun k => match k with
  | _ => .int
abbrev wsJ10 : List Cond := u_ws RJ1 TJ1 0
theorem nmJ1 : ∀ a, a < 0 → ∀ b, b < 0 → a ≠ b → (TJ1 a).2.1 ≠ (TJ1 b).2.1 := by decide +kernel
theorem tyJ1_ok : ∀ k, k < 0 → parseFieldDescriptor (TJ1 k).2.2.1 = some (tyJ1 k) := by decide +kernel
abbrev cJ1_charAt_3b067 : ByteArray := prog_16_method_2_code
def yJ1_charAt_3b067 : MethodName := ⟨RJ1, "charAt", "([BI)C"⟩
def RJ2 : String := "java/lang/StringUTF16"
def TJ2 : u_T := fun k => match k with
  | _ => ("", "", "", false)
def tyJ2 : Nat → FieldType := fun k => match k with
  | _ => .int
abbrev wsJ20 : List Cond := u_ws RJ2 TJ2 0
theorem nmJ2 : ∀ a, a < 0 → ∀ b, b < 0 → a ≠ b → (TJ2 a).2.1 ≠ (TJ2 b).2.1 := by decide +kernel
theorem tyJ2_ok : ∀ k, k < 0 → parseFieldDescriptor (TJ2 k).2.2.1 = some (tyJ2 k) := by decide +kernel
abbrev cJ2_getChar_3b067 : ByteArray := prog_17_method_5_code
def yJ2_getChar_3b067 : MethodName := ⟨RJ2, "getChar", "([BI)C"⟩
abbrev cJ2_length_9d52b : ByteArray := prog_17_method_6_code
def yJ2_length_9d52b : MethodName := ⟨RJ2, "length", "([B)I"⟩
abbrev cJ2_charAt_3b067 : ByteArray := prog_17_method_83_code
def yJ2_charAt_3b067 : MethodName := ⟨RJ2, "charAt", "([BI)C"⟩
abbrev cJ2_checkIndex_2214a : ByteArray := prog_17_method_91_code
def yJ2_checkIndex_2214a : MethodName := ⟨RJ2, "checkIndex", "(I[B)V"⟩
def RJ3 : String := "jdk/internal/util/Preconditions"
def TJ3 : u_T := fun k => match k with
  | _ => ("", "", "", false)
def tyJ3 : Nat → FieldType := fun k => match k with
  | _ => .int
abbrev wsJ30 : List Cond := u_ws RJ3 TJ3 0
theorem nmJ3 : ∀ a, a < 0 → ∀ b, b < 0 → a ≠ b → (TJ3 a).2.1 ≠ (TJ3 b).2.1 := by decide +kernel
theorem tyJ3_ok : ∀ k, k < 0 → parseFieldDescriptor (TJ3 k).2.2.1 = some (tyJ3 k) := by decide +kernel
abbrev cJ3_checkIndex_8e157 : ByteArray := prog_18_method_11_code
def yJ3_checkIndex_8e157 : MethodName := ⟨RJ3, "checkIndex", "(IILjava/util/function/BiFunction;)I"⟩
def RL : String := "QuotedRiverLaw"
abbrev cL_law : ByteArray := code
def yL_law : MethodName := ⟨RL, "law", "([I)Z"⟩
def wsL_law_r1 : List Cond := [Cond.classLink RL 7 RX9, Cond.instantiable RX9 14, Cond.initialized RX9, Cond.classLink RL 10 RX10, Cond.instantiable RX10 42, Cond.initialized RX10, Cond.constantLong RL 316 (4294967295), Cond.methodLink RL 9 yX9_init, Cond.instanceMethod yX9_init, Cond.code yX9_init cX9_init 2 none, Cond.methodLink RX9 1 objectInit, Cond.instanceMethod objectInit, Cond.code objectInit ⟨#[0xb1]⟩ 1 none, Cond.classLink RX9 7 RX6, Cond.instantiable RX6 2, Cond.initialized RX6, Cond.fieldLink RX9 10 "QuotedRiver" "tape" "LQuotedRiver$Tape;", Cond.classLink RX9 16 RX1, Cond.instantiable RX1 6, Cond.initialized RX1, Cond.fieldLink RX9 19 "QuotedRiver" "reader" "LQuotedRiver$Reader;", Cond.classLink RX9 23 RX2, Cond.instantiable RX2 20, Cond.initialized RX2]
def wsL_law_r2 : List Cond := [Cond.fieldLink RX9 26 "QuotedRiver" "now" "LQuotedRiver$Rivers;", Cond.fieldLink RX9 30 "QuotedRiver" "tried" "LQuotedRiver$Rivers;", Cond.fieldLink RX9 33 "QuotedRiver" "images" "[LQuotedRiver$Rivers;", Cond.fieldLink RX9 37 "QuotedRiver" "imagesKept" "I", Cond.classLink RX9 41 RX8, Cond.instantiable RX8 3, Cond.initialized RX8, Cond.fieldLink RX9 44 "QuotedRiver" "water" "LQuotedRiver$Water;", Cond.fieldLink RX9 48 "QuotedRiver" "trial" "LQuotedRiver$Water;", Cond.classLink RX9 51 RX5, Cond.instantiable RX5 9, Cond.initialized RX5, Cond.fieldLink RX9 54 "QuotedRiver" "stick" "LQuotedRiver$Stick;", Cond.fieldLink RX9 58 "QuotedRiver" "mate" "LQuotedRiver$Stick;", Cond.classLink RX9 61 RX3, Cond.fieldLink RX9 63 "QuotedRiver" "rows" "[LQuotedRiver$Row;", Cond.classLink RX9 67 RX4, Cond.instantiable RX4 4, Cond.initialized RX4, Cond.fieldLink RX9 70 "QuotedRiver" "found" "LQuotedRiver$Sources;", Cond.classLink RX9 74 RX0, Cond.instantiable RX0 4, Cond.initialized RX0, Cond.fieldLink RX9 77 "QuotedRiver" "chances" "LQuotedRiver$Chances;"]
def wsL_law_r3 : List Cond := [Cond.arrayClass .int, Cond.fieldLink RX9 81 "QuotedRiver" "scratch" "[I", Cond.instantiable RX3 4, Cond.initialized RX3, Cond.instanceMethod yX6_init, Cond.code yX6_init cX6_init 1 none, Cond.methodLink RX6 3 objectInit, Cond.fieldLink RX6 9 "QuotedRiver$Tape" "bytes" "[I", Cond.fieldLink RX6 15 "QuotedRiver$Tape" "size" "I", Cond.instanceMethod yX1_init, Cond.code yX1_init cX1_init 1 none, Cond.methodLink RX1 3 objectInit, Cond.classLink RX1 9 RX7, Cond.instantiable RX7 4, Cond.initialized RX7, Cond.fieldLink RX1 12 "QuotedRiver$Reader" "tokens" "LQuotedRiver$Tokens;", Cond.classLink RX1 18 RX2, Cond.fieldLink RX1 21 "QuotedRiver$Reader" "rivers" "LQuotedRiver$Rivers;", Cond.fieldLink RX1 25 "QuotedRiver$Reader" "fault" "I", Cond.fieldLink RX1 29 "QuotedRiver$Reader" "faultPlace" "I", Cond.fieldLink RX1 32 "QuotedRiver$Reader" "kind" "I", Cond.fieldLink RX1 35 "QuotedRiver$Reader" "next" "I", Cond.instanceMethod yX7_init, Cond.code yX7_init cX7_init 1 none]
def wsL_law_r4 : List Cond := [Cond.methodLink RX7 3 objectInit, Cond.fieldLink RX7 9 "QuotedRiver$Tokens" "kinds" "[I", Cond.fieldLink RX7 15 "QuotedRiver$Tokens" "places" "[I", Cond.fieldLink RX7 18 "QuotedRiver$Tokens" "values" "[I", Cond.fieldLink RX7 21 "QuotedRiver$Tokens" "size" "I", Cond.instanceMethod yX2_init, Cond.code yX2_init cX2_init 1 none, Cond.methodLink RX2 3 objectInit, Cond.fieldLink RX2 9 "QuotedRiver$Rivers" "told" "Z", Cond.fieldLink RX2 15 "QuotedRiver$Rivers" "level" "I", Cond.fieldLink RX2 19 "QuotedRiver$Rivers" "odds" "I", Cond.fieldLink RX2 22 "QuotedRiver$Rivers" "swell" "I", Cond.fieldLink RX2 25 "QuotedRiver$Rivers" "reaches" "I", Cond.fieldLink RX2 28 "QuotedRiver$Rivers" "target" "[I", Cond.fieldLink RX2 32 "QuotedRiver$Rivers" "takes" "[I", Cond.fieldLink RX2 35 "QuotedRiver$Rivers" "low" "[I", Cond.fieldLink RX2 38 "QuotedRiver$Rivers" "joins" "I", Cond.fieldLink RX2 41 "QuotedRiver$Rivers" "joinFrom" "[I", Cond.fieldLink RX2 44 "QuotedRiver$Rivers" "joinTo" "[I", Cond.fieldLink RX2 47 "QuotedRiver$Rivers" "joinEach" "[I", Cond.fieldLink RX2 50 "QuotedRiver$Rivers" "joinAt" "[I", Cond.fieldLink RX2 53 "QuotedRiver$Rivers" "rains" "I", Cond.fieldLink RX2 56 "QuotedRiver$Rivers" "rainMuch" "[I", Cond.fieldLink RX2 59 "QuotedRiver$Rivers" "rainStep" "[I"]
def wsL_law_r5 : List Cond := [Cond.fieldLink RX2 62 "QuotedRiver$Rivers" "acts" "I", Cond.fieldLink RX2 65 "QuotedRiver$Rivers" "actKind" "[I", Cond.fieldLink RX2 68 "QuotedRiver$Rivers" "actOn" "[I", Cond.fieldLink RX2 71 "QuotedRiver$Rivers" "actBy" "[I", Cond.instanceMethod yX8_init, Cond.code yX8_init cX8_init 1 none, Cond.methodLink RX8 3 objectInit, Cond.fieldLink RX8 9 "QuotedRiver$Water" "rains" "[I", Cond.fieldLink RX8 15 "QuotedRiver$Water" "levels" "[I", Cond.fieldLink RX8 18 "QuotedRiver$Water" "shutJoins" "I", Cond.instanceMethod yX5_init, Cond.code yX5_init cX5_init 1 none, Cond.methodLink RX5 3 objectInit, Cond.fieldLink RX5 9 "QuotedRiver$Stick" "spots" "[I", Cond.fieldLink RX5 15 "QuotedRiver$Stick" "visited" "I", Cond.fieldLink RX5 19 "QuotedRiver$Stick" "newest" "I", Cond.fieldLink RX5 22 "QuotedRiver$Stick" "revisit" "I", Cond.fieldLink RX5 25 "QuotedRiver$Stick" "inSea" "I", Cond.fieldLink RX5 28 "QuotedRiver$Stick" "stood" "I", Cond.fieldLink RX5 31 "QuotedRiver$Stick" "departures" "I", Cond.fieldLink RX5 34 "QuotedRiver$Stick" "byJoin" "I", Cond.fieldLink RX5 37 "QuotedRiver$Stick" "joinsTaken" "I", Cond.instanceMethod yX4_init, Cond.code yX4_init cX4_init 1 none]
def wsL_law_r6 : List Cond := [Cond.methodLink RX4 3 objectInit, Cond.fieldLink RX4 9 "QuotedRiver$Sources" "pairs" "I", Cond.fieldLink RX4 15 "QuotedRiver$Sources" "reaches" "I", Cond.fieldLink RX4 18 "QuotedRiver$Sources" "first" "I", Cond.fieldLink RX4 21 "QuotedRiver$Sources" "tally" "[I", Cond.instanceMethod yX0_init, Cond.code yX0_init cX0_init 1 none, Cond.methodLink RX0 3 objectInit, Cond.arrayClass .long, Cond.fieldLink RX0 9 "QuotedRiver$Chances" "weights" "[J", Cond.fieldLink RX0 15 "QuotedRiver$Chances" "later" "[J", Cond.fieldLink RX0 18 "QuotedRiver$Chances" "top" "I", Cond.fieldLink RX0 22 "QuotedRiver$Chances" "whole" "J", Cond.instanceMethod yX3_init, Cond.code yX3_init cX3_init 1 none, Cond.methodLink RX3 3 objectInit, Cond.fieldLink RX3 9 "QuotedRiver$Row" "there" "Z", Cond.fieldLink RX3 15 "QuotedRiver$Row" "width" "I", Cond.fieldLink RX3 19 "QuotedRiver$Row" "size" "I", Cond.fieldLink RX3 22 "QuotedRiver$Row" "numbers" "[J", Cond.methodLink RL 12 yX10_init, Cond.instanceMethod yX10_init, Cond.code yX10_init cX10_init 1 none, Cond.methodLink RX10 3 objectInit]
def wsL_law_r7 : List Cond := [Cond.fieldLink RX10 9 "QuotedRiverModel" "world" "[I", Cond.fieldLink RX10 13 "QuotedRiverModel" "images" "[I", Cond.arrayClass .boolean, Cond.fieldLink RX10 16 "QuotedRiverModel" "hasImage" "[Z", Cond.arrayClass .byte, Cond.fieldLink RX10 20 "QuotedRiverModel" "tape" "[B", Cond.fieldLink RX10 24 "QuotedRiverModel" "five" "[I", Cond.fieldLink RX10 27 "QuotedRiverModel" "faultPlace" "I", Cond.fieldLink RX10 31 "QuotedRiverModel" "fresh" "[I", Cond.fieldLink RX10 34 "QuotedRiverModel" "rainAt" "[I", Cond.fieldLink RX10 37 "QuotedRiverModel" "levelAt" "[I", Cond.fieldLink RX10 40 "QuotedRiverModel" "standsAt" "[I", Cond.fieldLink RX10 43 "QuotedRiverModel" "eachOf" "[I", Cond.fieldLink RX10 46 "QuotedRiverModel" "turnOf" "[I", Cond.fieldLink RX10 49 "QuotedRiverModel" "whereAt" "[I", Cond.fieldLink RX10 52 "QuotedRiverModel" "arrives" "[Z", Cond.fieldLink RX10 55 "QuotedRiverModel" "wasAt" "[I", Cond.fieldLink RX10 58 "QuotedRiverModel" "manyIn" "[I", Cond.fieldLink RX10 61 "QuotedRiverModel" "pairs" "[I", Cond.constant RX10 64 (37210), Cond.fieldLink RX10 65 "QuotedRiverModel" "wasBy" "[B", Cond.fieldLink RX10 68 "QuotedRiverModel" "weightNow" "[J", Cond.fieldLink RX10 72 "QuotedRiverModel" "weightThen" "[J", Cond.fieldLink RX10 75 "QuotedRiverModel" "many" "[I"]
def wsL_law_r8 : List Cond := [Cond.fieldLink RX10 78 "QuotedRiverModel" "width" "[I", Cond.fieldLink RX10 81 "QuotedRiverModel" "numbers" "[J", Cond.fieldLink RX10 84 "QuotedRiverModel" "moving" "[J", Cond.methodLink RL 13 yX9_feed, Cond.instanceMethod yX9_feed, Cond.selects RX9 yX9_feed yX9_feed, Cond.code yX9_feed cX9_feed 6 (some .int), Cond.instanceMethod yX6_append, Cond.selects RX6 yX6_append yX6_append, Cond.code yX6_append cX6_append 3 none, Cond.static yX9_put, Cond.code yX9_put cX9_put 3 none, Cond.methodLink RL 17 yX10_feed, Cond.instanceMethod yX10_feed, Cond.selects RX10 yX10_feed yX10_feed, Cond.code yX10_feed cX10_feed 7 (some .int), Cond.fieldLink RX10 98 "QuotedRiverModel" "taped" "I", Cond.methodLink RL 18 yX9_end, Cond.instanceMethod yX9_end, Cond.selects RX9 yX9_end yX9_end, Cond.code yX9_end cX9_end 2 (some .int), Cond.methodLink RL 22 yX10_end, Cond.instanceMethod yX10_end, Cond.selects RX10 yX10_end yX10_end]
def wsL_law_r9 : List Cond := [Cond.code yX10_end cX10_end 2 (some .int), Cond.methodLink RX10 92 yX10_in, Cond.static yX10_in, Cond.code yX10_in cX10_in 6 (some .boolean), Cond.methodLink RL 23 yX9_rivers, Cond.instanceMethod yX9_rivers, Cond.selects RX9 yX9_rivers yX9_rivers, Cond.code yX9_rivers cX9_rivers 1 (some .int), Cond.instanceMethod yX1_read, Cond.selects RX1 yX1_read yX1_read, Cond.code yX1_read cX1_read 3 none, Cond.instanceMethod yX7_scan, Cond.selects RX7 yX7_scan yX7_scan, Cond.code yX7_scan cX7_scan 4 none, Cond.instanceMethod yX6_byteAt, Cond.selects RX6 yX6_byteAt yX6_byteAt, Cond.code yX6_byteAt cX6_byteAt 2 (some .int), Cond.methodLink RX7 32 yX7_isBlank, Cond.static yX7_isBlank, Cond.code yX7_isBlank cX7_isBlank 1 (some .boolean), Cond.methodLink RX7 36 yX7_scanToken, Cond.instanceMethod yX7_scanToken, Cond.selects RX7 yX7_scanToken yX7_scanToken, Cond.code yX7_scanToken cX7_scanToken 4 (some .int)]
def wsL_law_r10 : List Cond := [Cond.methodLink RX7 44 yX7_isLetter, Cond.static yX7_isLetter, Cond.code yX7_isLetter cX7_isLetter 1 (some .boolean), Cond.methodLink RX7 47 yX7_wordKind, Cond.static yX7_wordKind, Cond.code yX7_wordKind cX7_wordKind 3 (some .int), Cond.instanceMethod yX6_says, Cond.selects RX6 yX6_says yX6_says, Cond.code yX6_says cX6_says 4 (some .boolean), Cond.methodLink RX6 23 yJ0_length_8abf5, Cond.instanceMethod yJ0_length_8abf5, Cond.selects RJ0 yJ0_length_8abf5 yJ0_length_8abf5, Cond.initialized RJ0, Cond.code yJ0_length_8abf5 cJ0_length_8abf5 1 (some .int), Cond.fieldLink RJ0 9 "java/lang/String" "value" "[B", Cond.methodLink RJ0 335 yJ0_coder_7d493, Cond.instanceMethod yJ0_coder_7d493, Cond.selects RJ0 yJ0_coder_7d493 yJ0_coder_7d493, Cond.code yJ0_coder_7d493 cJ0_coder_7d493 1 (some .byte), Cond.fieldLink RJ0 38 "java/lang/String" "COMPACT_STRINGS" "Z", Cond.fieldLink RJ0 15 "java/lang/String" "coder" "B", Cond.methodLink RX6 29 yX6_byteAt, Cond.methodLink RX6 33 yJ0_charAt_5068e, Cond.instanceMethod yJ0_charAt_5068e]
def wsL_law_r11 : List Cond := [Cond.selects RJ0 yJ0_charAt_5068e yJ0_charAt_5068e, Cond.code yJ0_charAt_5068e cJ0_charAt_5068e 2 (some .char), Cond.methodLink RJ0 492 yJ0_isLatin1_aae02, Cond.instanceMethod yJ0_isLatin1_aae02, Cond.selects RJ0 yJ0_isLatin1_aae02 yJ0_isLatin1_aae02, Cond.code yJ0_isLatin1_aae02 cJ0_isLatin1_aae02 1 (some .boolean), Cond.methodLink RJ0 495 yJ1_charAt_3b067, Cond.static yJ1_charAt_3b067, Cond.initialized RJ1, Cond.code yJ1_charAt_3b067 cJ1_charAt_3b067 2 (some .char), Cond.methodLink RJ1 9 yJ0_checkIndex_df160, Cond.static yJ0_checkIndex_df160, Cond.code yJ0_checkIndex_df160 cJ0_checkIndex_df160 2 none, Cond.fieldLink RJ0 1053 "jdk/internal/util/Preconditions" "SIOOBE_FORMATTER" "Ljava/util/function/BiFunction;", Cond.methodLink RJ0 1059 yJ3_checkIndex_8e157, Cond.static yJ3_checkIndex_8e157, Cond.initialized RJ3, Cond.code yJ3_checkIndex_8e157 cJ3_checkIndex_8e157 3 (some .int), Cond.methodLink RJ0 498 yJ2_charAt_3b067, Cond.static yJ2_charAt_3b067, Cond.initialized RJ2, Cond.code yJ2_charAt_3b067 cJ2_charAt_3b067 2 (some .char), Cond.methodLink RJ2 67 yJ2_checkIndex_2214a, Cond.static yJ2_checkIndex_2214a]
def wsL_law_r12 : List Cond := [Cond.code yJ2_checkIndex_2214a cJ2_checkIndex_2214a 2 none, Cond.methodLink RJ2 48 yJ2_length_9d52b, Cond.static yJ2_length_9d52b, Cond.code yJ2_length_9d52b cJ2_length_9d52b 1 (some .int), Cond.methodLink RJ2 414 yJ0_checkIndex_df160, Cond.methodLink RJ2 71 yJ2_getChar_3b067, Cond.static yJ2_getChar_3b067, Cond.code yJ2_getChar_3b067 cJ2_getChar_3b067 2 (some .char), Cond.fieldLink RJ2 44 "java/lang/StringUTF16" "$assertionsDisabled" "Z", Cond.fieldLink RJ2 59 "java/lang/StringUTF16" "HI_BYTE_SHIFT" "I", Cond.fieldLink RJ2 63 "java/lang/StringUTF16" "LO_BYTE_SHIFT" "I", Cond.methodLink RX7 40 yX7_add, Cond.instanceMethod yX7_add, Cond.selects RX7 yX7_add yX7_add, Cond.code yX7_add cX7_add 4 none, Cond.methodLink RX7 51 yX7_isDigit, Cond.static yX7_isDigit, Cond.code yX7_isDigit cX7_isDigit 1 (some .boolean), Cond.methodLink RX7 54 yX7_valueOf, Cond.static yX7_valueOf, Cond.code yX7_valueOf cX7_valueOf 5 (some .int), Cond.methodLink RX7 61 Lib.Math.min.name, Cond.static Lib.Math.min.name, Cond.initialized "java/lang/Math"]
def wsL_law_r13 : List Cond := [Cond.code Lib.Math.min.name Lib.Math.min.code 2 (some .int), Cond.instanceMethod yX2_clear, Cond.selects RX2 yX2_clear yX2_clear, Cond.code yX2_clear cX2_clear 1 none, Cond.static yX9_pick, Cond.code yX9_pick cX9_pick 2 (some .int), Cond.methodLink RX1 53 yX1_readRivers, Cond.instanceMethod yX1_readRivers, Cond.selects RX1 yX1_readRivers yX1_readRivers, Cond.code yX1_readRivers cX1_readRivers 1 none, Cond.methodLink RX1 69 yX1_take, Cond.instanceMethod yX1_take, Cond.selects RX1 yX1_take yX1_take, Cond.code yX1_take cX1_take 2 none, Cond.methodLink RX1 65 yX1_blame, Cond.instanceMethod yX1_blame, Cond.selects RX1 yX1_blame yX1_blame, Cond.code yX1_blame cX1_blame 2 none, Cond.methodLink RX1 82 yX1_takeNumber, Cond.instanceMethod yX1_takeNumber, Cond.selects RX1 yX1_takeNumber yX1_takeNumber, Cond.code yX1_takeNumber cX1_takeNumber 4 (some .int), Cond.methodLink RX1 109 yX1_takeValue, Cond.instanceMethod yX1_takeValue]
def wsL_law_r14 : List Cond := [Cond.selects RX1 yX1_takeValue yX1_takeValue, Cond.code yX1_takeValue cX1_takeValue 4 (some .int), Cond.methodLink RX1 56 yX1_readReach, Cond.instanceMethod yX1_readReach, Cond.selects RX1 yX1_readReach yX1_readReach, Cond.code yX1_readReach cX1_readReach 2 none, Cond.methodLink RX1 98 yX1_claim, Cond.instanceMethod yX1_claim, Cond.selects RX1 yX1_claim yX1_claim, Cond.code yX1_claim cX1_claim 3 (some .int), Cond.methodLink RX1 142 Lib.Math.min.name, Cond.methodLink RX1 59 yX1_readJoin, Cond.instanceMethod yX1_readJoin, Cond.selects RX1 yX1_readJoin yX1_readJoin, Cond.code yX1_readJoin cX1_readJoin 3 none, Cond.methodLink RX1 62 yX1_readRain, Cond.instanceMethod yX1_readRain, Cond.selects RX1 yX1_readRain yX1_readRain, Cond.code yX1_readRain cX1_readRain 2 none, Cond.instanceMethod yX2_sendToSea, Cond.selects RX2 yX2_sendToSea yX2_sendToSea, Cond.code yX2_sendToSea cX2_sendToSea 2 none, Cond.instanceMethod yX2_become, Cond.selects RX2 yX2_become yX2_become]
def wsL_law_r15 : List Cond := [Cond.code yX2_become cX2_become 2 none, Cond.static yX9_copy, Cond.code yX9_copy cX9_copy 3 none, Cond.instanceMethod yX8_settle, Cond.selects RX8 yX8_settle yX8_settle, Cond.code yX8_settle cX8_settle 3 none, Cond.methodLink RX8 44 yX8_addRain, Cond.instanceMethod yX8_addRain, Cond.selects RX8 yX8_addRain yX8_addRain, Cond.code yX8_addRain cX8_addRain 3 none, Cond.methodLink RX8 60 yX8_redo, Cond.instanceMethod yX8_redo, Cond.selects RX8 yX8_redo yX8_redo, Cond.code yX8_redo cX8_redo 4 none, Cond.static yX9_bit, Cond.code yX9_bit cX9_bit 1 (some .int), Cond.methodLink RX8 67 yX8_fall, Cond.instanceMethod yX8_fall, Cond.selects RX8 yX8_fall yX8_fall, Cond.code yX8_fall cX8_fall 4 none, Cond.methodLink RX8 78 Lib.Math.max.name, Cond.static Lib.Math.max.name, Cond.code Lib.Math.max.name Lib.Math.max.code 2 (some .int), Cond.methodLink RX8 75 yX8_rainAt]
def wsL_law_r16 : List Cond := [Cond.instanceMethod yX8_rainAt, Cond.selects RX8 yX8_rainAt yX8_rainAt, Cond.code yX8_rainAt cX8_rainAt 2 (some .int), Cond.instanceMethod yX2_lines, Cond.selects RX2 yX2_lines yX2_lines, Cond.code yX2_lines cX2_lines 1 (some .int), Cond.methodLink RL 27 yX10_rivers, Cond.instanceMethod yX10_rivers, Cond.selects RX10 yX10_rivers yX10_rivers, Cond.code yX10_rivers cX10_rivers 2 (some .int), Cond.fieldLink RX10 101 "QuotedRiverModel" "size" "I", Cond.fieldLink RX10 104 "QuotedRiverModel" "at" "I", Cond.fieldLink RX10 135 "QuotedRiverModel" "faultKind" "I", Cond.fieldLink RX10 114 "QuotedRiverModel" "token" "I", Cond.methodLink RX10 156 yX10_advance, Cond.instanceMethod yX10_advance, Cond.selects RX10 yX10_advance yX10_advance, Cond.code yX10_advance cX10_advance 2 none, Cond.fieldLink RX10 111 "QuotedRiverModel" "from" "I", Cond.constantLong RX10 117 (97), Cond.constantLong RX10 119 (122), Cond.constantLong RX10 121 (48), Cond.constantLong RX10 123 (57), Cond.fieldLink RX10 125 "QuotedRiverModel" "value" "I"]
def wsL_law_r17 : List Cond := [Cond.constant RX10 128 (99999), Cond.methodLink RX10 129 Lib.Math.min.name, Cond.methodLink RX10 107 yX10_see, Cond.instanceMethod yX10_see, Cond.selects RX10 yX10_see yX10_see, Cond.code yX10_see cX10_see 2 (some .int), Cond.methodLink RX10 138 yX10_good, Cond.instanceMethod yX10_good, Cond.selects RX10 yX10_good yX10_good, Cond.code yX10_good cX10_good 1 (some .boolean), Cond.methodLink RX10 216 yX10_readLine, Cond.instanceMethod yX10_readLine, Cond.selects RX10 yX10_readLine yX10_readLine, Cond.code yX10_readLine cX10_readLine 1 none, Cond.methodLink RX10 210 yX10_readFirst, Cond.instanceMethod yX10_readFirst, Cond.selects RX10 yX10_readFirst yX10_readFirst, Cond.code yX10_readFirst cX10_readFirst 1 none, Cond.methodLink RX10 166 yX10_needs, Cond.instanceMethod yX10_needs, Cond.selects RX10 yX10_needs yX10_needs, Cond.code yX10_needs cX10_needs 2 none, Cond.methodLink RX10 159 yX10_takes, Cond.instanceMethod yX10_takes]
def wsL_law_r18 : List Cond := [Cond.selects RX10 yX10_takes yX10_takes, Cond.code yX10_takes cX10_takes 3 (some .boolean), Cond.methodLink RX10 152 yX10_is, Cond.instanceMethod yX10_is, Cond.selects RX10 yX10_is yX10_is, Cond.code yX10_is cX10_is 4 (some .boolean), Cond.methodLink RX10 142 yJ0_length_8abf5, Cond.methodLink RX10 148 yJ0_charAt_5068e, Cond.methodLink RX10 162 yX10_errs, Cond.instanceMethod yX10_errs, Cond.selects RX10 yX10_errs yX10_errs, Cond.code yX10_errs cX10_errs 2 none, Cond.methodLink RX10 177 yX10_told, Cond.instanceMethod yX10_told, Cond.selects RX10 yX10_told yX10_told, Cond.code yX10_told cX10_told 4 (some .int), Cond.methodLink RX10 170 yX10_number, Cond.instanceMethod yX10_number, Cond.selects RX10 yX10_number yX10_number, Cond.code yX10_number cX10_number 4 (some .int), Cond.methodLink RX10 213 yX10_readNext, Cond.instanceMethod yX10_readNext, Cond.selects RX10 yX10_readNext yX10_readNext, Cond.code yX10_readNext cX10_readNext 1 none]
def wsL_law_r19 : List Cond := [Cond.methodLink RX10 201 yX10_readReach, Cond.instanceMethod yX10_readReach, Cond.selects RX10 yX10_readReach yX10_readReach, Cond.code yX10_readReach cX10_readReach 3 none, Cond.methodLink RX10 204 yX10_readJoin, Cond.instanceMethod yX10_readJoin, Cond.selects RX10 yX10_readJoin yX10_readJoin, Cond.code yX10_readJoin cX10_readJoin 2 none, Cond.methodLink RX10 207 yX10_readRain, Cond.instanceMethod yX10_readRain, Cond.selects RX10 yX10_readRain yX10_readRain, Cond.code yX10_readRain cX10_readRain 2 none, Cond.methodLink RL 28 yX9_fault, Cond.instanceMethod yX9_fault, Cond.selects RX9 yX9_fault yX9_fault, Cond.code yX9_fault cX9_fault 2 (some .int), Cond.methodLink RL 31 yX10_fault, Cond.instanceMethod yX10_fault, Cond.selects RX10 yX10_fault yX10_fault, Cond.code yX10_fault cX10_fault 2 (some .int), Cond.methodLink RL 32 yX9_reach, Cond.instanceMethod yX9_reach, Cond.selects RX9 yX9_reach yX9_reach, Cond.code yX9_reach cX9_reach 3 (some .int)]
def wsL_law_r20 : List Cond := [Cond.methodLink RX9 117 yX9_isReach, Cond.instanceMethod yX9_isReach, Cond.selects RX9 yX9_isReach yX9_isReach, Cond.code yX9_isReach cX9_isReach 2 (some .boolean), Cond.methodLink RX9 124 yX9_pick, Cond.methodLink RL 36 yX10_reach, Cond.instanceMethod yX10_reach, Cond.selects RX10 yX10_reach yX10_reach, Cond.code yX10_reach cX10_reach 3 (some .int), Cond.constantLong RX10 90 (2), Cond.methodLink RX10 219 yX10_isReach, Cond.instanceMethod yX10_isReach, Cond.selects RX10 yX10_isReach yX10_isReach, Cond.code yX10_isReach cX10_isReach 3 (some .boolean), Cond.methodLink RX10 223 yX10_of, Cond.instanceMethod yX10_of, Cond.selects RX10 yX10_of yX10_of, Cond.code yX10_of cX10_of 3 (some .int), Cond.methodLink RL 37 yX9_join, Cond.instanceMethod yX9_join, Cond.selects RX9 yX9_join yX9_join, Cond.code yX9_join cX9_join 3 (some .int), Cond.methodLink RX9 134 yX9_isJoin, Cond.instanceMethod yX9_isJoin]
def wsL_law_r21 : List Cond := [Cond.selects RX9 yX9_isJoin yX9_isJoin, Cond.code yX9_isJoin cX9_isJoin 2 (some .boolean), Cond.methodLink RL 40 yX10_join, Cond.instanceMethod yX10_join, Cond.selects RX10 yX10_join yX10_join, Cond.code yX10_join cX10_join 3 (some .int), Cond.constantLong RX10 230 (3), Cond.methodLink RX10 226 yX10_isJoin, Cond.instanceMethod yX10_isJoin, Cond.selects RX10 yX10_isJoin yX10_isJoin, Cond.code yX10_isJoin cX10_isJoin 2 (some .boolean), Cond.methodLink RX10 232 yX10_ofJoin, Cond.instanceMethod yX10_ofJoin, Cond.selects RX10 yX10_ofJoin yX10_ofJoin, Cond.code yX10_ofJoin cX10_ofJoin 3 (some .int), Cond.methodLink RL 41 yX9_rain, Cond.instanceMethod yX9_rain, Cond.selects RX9 yX9_rain yX9_rain, Cond.code yX9_rain cX9_rain 3 (some .int), Cond.methodLink RL 44 yX10_rain, Cond.instanceMethod yX10_rain, Cond.selects RX10 yX10_rain yX10_rain, Cond.code yX10_rain cX10_rain 3 (some .int), Cond.methodLink RL 45 yX9_level]
def wsL_law_r22 : List Cond := [Cond.instanceMethod yX9_level, Cond.selects RX9 yX9_level yX9_level, Cond.code yX9_level cX9_level 2 (some .int), Cond.methodLink RX9 158 yX9_hasStep, Cond.instanceMethod yX9_hasStep, Cond.selects RX9 yX9_hasStep yX9_hasStep, Cond.code yX9_hasStep cX9_hasStep 2 (some .boolean), Cond.methodLink RX9 194 yX9_isStep, Cond.static yX9_isStep, Cond.code yX9_isStep cX9_isStep 1 (some .boolean), Cond.instanceMethod yX8_levelAt, Cond.selects RX8 yX8_levelAt yX8_levelAt, Cond.code yX8_levelAt cX8_levelAt 2 (some .int), Cond.methodLink RL 48 yX10_level, Cond.instanceMethod yX10_level, Cond.selects RX10 yX10_level yX10_level, Cond.code yX10_level cX10_level 2 (some .int), Cond.methodLink RX10 253 yX10_asksRivers, Cond.instanceMethod yX10_asksRivers, Cond.selects RX10 yX10_asksRivers yX10_asksRivers, Cond.code yX10_asksRivers cX10_asksRivers 1 (some .boolean), Cond.methodLink RX10 247 yX10_asItIs, Cond.instanceMethod yX10_asItIs, Cond.selects RX10 yX10_asItIs yX10_asItIs]
def wsL_law_r23 : List Cond := [Cond.code yX10_asItIs cX10_asItIs 3 none, Cond.fieldLink RX10 238 "QuotedRiverModel" "shutSet" "I", Cond.fieldLink RX10 241 "QuotedRiverModel" "stopped" "I", Cond.methodLink RX10 244 yX10_layLevels, Cond.instanceMethod yX10_layLevels, Cond.selects RX10 yX10_layLevels yX10_layLevels, Cond.code yX10_layLevels cX10_layLevels 3 none, Cond.methodLink RX10 235 Lib.Math.max.name, Cond.methodLink RX10 250 yX10_isRivers, Cond.instanceMethod yX10_isRivers, Cond.selects RX10 yX10_isRivers yX10_isRivers, Cond.code yX10_isRivers cX10_isRivers 1 (some .boolean), Cond.methodLink RX10 256 yX10_isStep, Cond.static yX10_isStep, Cond.code yX10_isStep cX10_isStep 2 (some .boolean), Cond.constantLong RX10 96 (60), Cond.methodLink RL 49 yX9_stands, Cond.instanceMethod yX9_stands, Cond.selects RX9 yX9_stands yX9_stands, Cond.code yX9_stands cX9_stands 2 (some .int), Cond.methodLink RX9 165 yX9_standing, Cond.instanceMethod yX9_standing, Cond.selects RX9 yX9_standing yX9_standing, Cond.code yX9_standing cX9_standing 4 (some .int)]
def wsL_law_r24 : List Cond := [Cond.methodLink RX9 171 yX9_isStanding, Cond.instanceMethod yX9_isStanding, Cond.selects RX9 yX9_isStanding yX9_isStanding, Cond.code yX9_isStanding cX9_isStanding 3 (some .boolean), Cond.methodLink RX9 237 yX9_bit, Cond.methodLink RL 52 yX10_stands, Cond.instanceMethod yX10_stands, Cond.selects RX10 yX10_stands yX10_stands, Cond.code yX10_stands cX10_stands 2 (some .int), Cond.methodLink RL 53 yX9_dry, Cond.instanceMethod yX9_dry, Cond.selects RX9 yX9_dry yX9_dry, Cond.code yX9_dry cX9_dry 3 (some .int), Cond.methodLink RL 56 yX10_dry, Cond.instanceMethod yX10_dry, Cond.selects RX10 yX10_dry yX10_dry, Cond.code yX10_dry cX10_dry 3 (some .int), Cond.methodLink RX10 259 yX10_asksReach, Cond.instanceMethod yX10_asksReach, Cond.selects RX10 yX10_asksReach yX10_asksReach, Cond.code yX10_asksReach cX10_asksReach 2 (some .boolean), Cond.methodLink RX10 262 yX10_bit, Cond.static yX10_bit, Cond.code yX10_bit cX10_bit 2 (some .int)]
def wsL_law_r25 : List Cond := [Cond.methodLink RL 57 yX9_drought, Cond.instanceMethod yX9_drought, Cond.selects RX9 yX9_drought yX9_drought, Cond.code yX9_drought cX9_drought 5 (some .int), Cond.methodLink RX9 175 Lib.Math.max.name, Cond.methodLink RL 60 yX10_drought, Cond.instanceMethod yX10_drought, Cond.selects RX10 yX10_drought yX10_drought, Cond.code yX10_drought cX10_drought 5 (some .int), Cond.methodLink RL 61 yX9_where, Cond.instanceMethod yX9_where, Cond.selects RX9 yX9_where yX9_where, Cond.code yX9_where cX9_where 4 (some .int), Cond.methodLink RX9 197 yX9_putIn, Cond.instanceMethod yX9_putIn, Cond.selects RX9 yX9_putIn yX9_putIn, Cond.code yX9_putIn cX9_putIn 3 (some .boolean), Cond.instanceMethod yX5_drift, Cond.selects RX5 yX5_drift yX5_drift, Cond.code yX5_drift cX5_drift 8 none, Cond.methodLink RX5 40 yX5_forget, Cond.instanceMethod yX5_forget, Cond.selects RX5 yX5_forget yX5_forget, Cond.code yX5_forget cX5_forget 3 none]
def wsL_law_r26 : List Cond := [Cond.methodLink RX5 72 yX5_depart, Cond.instanceMethod yX5_depart, Cond.selects RX5 yX5_depart yX5_depart, Cond.code yX5_depart cX5_depart 7 (some .int), Cond.instanceMethod yX2_takesTurn, Cond.selects RX2 yX2_takesTurn yX2_takesTurn, Cond.code yX2_takesTurn cX2_takesTurn 4 (some .boolean), Cond.methodLink RX5 76 yX5_arrive, Cond.instanceMethod yX5_arrive, Cond.selects RX5 yX5_arrive yX5_arrive, Cond.code yX5_arrive cX5_arrive 3 none, Cond.instanceMethod yX5_spotAt, Cond.selects RX5 yX5_spotAt yX5_spotAt, Cond.code yX5_spotAt cX5_spotAt 2 (some .int), Cond.methodLink RL 65 yX10_where, Cond.instanceMethod yX10_where, Cond.selects RX10 yX10_where yX10_where, Cond.code yX10_where cX10_where 4 (some .int), Cond.methodLink RX10 284 yX10_putsIn, Cond.instanceMethod yX10_putsIn, Cond.selects RX10 yX10_putsIn yX10_putsIn, Cond.code yX10_putsIn cX10_putsIn 3 (some .boolean), Cond.methodLink RX10 280 yX10_goStick, Cond.instanceMethod yX10_goStick]
def wsL_law_r27 : List Cond := [Cond.selects RX10 yX10_goStick yX10_goStick, Cond.code yX10_goStick cX10_goStick 8 none, Cond.fieldLink RX10 268 "QuotedRiverModel" "leftMany" "I", Cond.fieldLink RX10 271 "QuotedRiverModel" "joinMany" "I", Cond.fieldLink RX10 274 "QuotedRiverModel" "joinSet" "I", Cond.methodLink RX10 277 yX10_joinFrom, Cond.instanceMethod yX10_joinFrom, Cond.selects RX10 yX10_joinFrom yX10_joinFrom, Cond.code yX10_joinFrom cX10_joinFrom 4 (some .int), Cond.methodLink RL 66 yX9_sea, Cond.instanceMethod yX9_sea, Cond.selects RX9 yX9_sea yX9_sea, Cond.code yX9_sea cX9_sea 3 (some .int), Cond.methodLink RL 69 yX10_sea, Cond.instanceMethod yX10_sea, Cond.selects RX10 yX10_sea yX10_sea, Cond.code yX10_sea cX10_sea 3 (some .int), Cond.methodLink RX10 288 yX10_comesOf, Cond.instanceMethod yX10_comesOf, Cond.selects RX10 yX10_comesOf yX10_comesOf, Cond.code yX10_comesOf cX10_comesOf 4 (some .int), Cond.methodLink RL 70 yX9_comes, Cond.instanceMethod yX9_comes, Cond.selects RX9 yX9_comes yX9_comes]
def wsL_law_r28 : List Cond := [Cond.code yX9_comes cX9_comes 4 (some .int), Cond.instanceMethod yX5_firstIn, Cond.selects RX5 yX5_firstIn yX5_firstIn, Cond.code yX5_firstIn cX5_firstIn 3 (some .int), Cond.methodLink RX5 96 yX5_spotAt, Cond.methodLink RL 73 yX10_comes, Cond.instanceMethod yX10_comes, Cond.selects RX10 yX10_comes yX10_comes, Cond.code yX10_comes cX10_comes 4 (some .int), Cond.methodLink RL 74 yX9_way, Cond.instanceMethod yX9_way, Cond.selects RX9 yX9_way yX9_way, Cond.code yX9_way cX9_way 3 (some .int), Cond.methodLink RL 77 yX10_way, Cond.instanceMethod yX10_way, Cond.selects RX10 yX10_way yX10_way, Cond.code yX10_way cX10_way 5 (some .int), Cond.methodLink RL 78 yX9_leaves, Cond.instanceMethod yX9_leaves, Cond.selects RX9 yX9_leaves yX9_leaves, Cond.code yX9_leaves cX9_leaves 3 (some .int), Cond.methodLink RL 81 yX10_leaves, Cond.instanceMethod yX10_leaves, Cond.selects RX10 yX10_leaves yX10_leaves]
def wsL_law_r29 : List Cond := [Cond.code yX10_leaves cX10_leaves 3 (some .int), Cond.methodLink RL 82 yX9_waits, Cond.instanceMethod yX9_waits, Cond.selects RX9 yX9_waits yX9_waits, Cond.code yX9_waits cX9_waits 3 (some .int), Cond.methodLink RL 85 yX10_waits, Cond.instanceMethod yX10_waits, Cond.selects RX10 yX10_waits yX10_waits, Cond.code yX10_waits cX10_waits 5 (some .int), Cond.methodLink RL 86 yX9_jumps, Cond.instanceMethod yX9_jumps, Cond.selects RX9 yX9_jumps yX9_jumps, Cond.code yX9_jumps cX9_jumps 3 (some .int), Cond.methodLink RL 89 yX10_jumps, Cond.instanceMethod yX10_jumps, Cond.selects RX10 yX10_jumps yX10_jumps, Cond.code yX10_jumps cX10_jumps 3 (some .int), Cond.methodLink RL 90 yX9_finds, Cond.instanceMethod yX9_finds, Cond.selects RX9 yX9_finds yX9_finds, Cond.code yX9_finds cX9_finds 3 (some .int), Cond.methodLink RL 93 yX10_finds, Cond.instanceMethod yX10_finds, Cond.selects RX10 yX10_finds yX10_finds]
def wsL_law_r30 : List Cond := [Cond.code yX10_finds cX10_finds 7 (some .int), Cond.methodLink RL 94 yX9_from, Cond.instanceMethod yX9_from, Cond.selects RX9 yX9_from yX9_from, Cond.code yX9_from cX9_from 5 (some .int), Cond.methodLink RL 97 yX10_from, Cond.instanceMethod yX10_from, Cond.selects RX10 yX10_from yX10_from, Cond.code yX10_from cX10_from 5 (some .int), Cond.methodLink RL 98 yX9_ends, Cond.instanceMethod yX9_ends, Cond.selects RX9 yX9_ends yX9_ends, Cond.code yX9_ends cX9_ends 4 (some .int), Cond.methodLink RL 101 yX10_ends, Cond.instanceMethod yX10_ends, Cond.selects RX10 yX10_ends yX10_ends, Cond.code yX10_ends cX10_ends 4 (some .int), Cond.methodLink RL 102 yX9_meet, Cond.instanceMethod yX9_meet, Cond.selects RX9 yX9_meet yX9_meet, Cond.code yX9_meet cX9_meet 4 (some .int), Cond.methodLink RX9 240 yX9_putBothIn, Cond.instanceMethod yX9_putBothIn, Cond.selects RX9 yX9_putBothIn yX9_putBothIn]
def wsL_law_r31 : List Cond := [Cond.code yX9_putBothIn cX9_putBothIn 3 (some .boolean), Cond.methodLink RX9 243 yX9_shareReach, Cond.instanceMethod yX9_shareReach, Cond.selects RX9 yX9_shareReach yX9_shareReach, Cond.code yX9_shareReach cX9_shareReach 2 (some .boolean), Cond.methodLink RL 105 yX10_meet, Cond.instanceMethod yX10_meet, Cond.selects RX10 yX10_meet yX10_meet, Cond.code yX10_meet cX10_meet 4 (some .int), Cond.methodLink RL 106 yX9_idle, Cond.instanceMethod yX9_idle, Cond.selects RX9 yX9_idle yX9_idle, Cond.code yX9_idle cX9_idle 4 (some .int), Cond.methodLink RL 109 yX10_idle, Cond.instanceMethod yX10_idle, Cond.selects RX10 yX10_idle yX10_idle, Cond.code yX10_idle cX10_idle 4 (some .int), Cond.methodLink RL 110 yX9_alike, Cond.instanceMethod yX9_alike, Cond.selects RX9 yX9_alike yX9_alike, Cond.code yX9_alike cX9_alike 5 (some .int), Cond.methodLink RL 113 yX10_alike, Cond.instanceMethod yX10_alike, Cond.selects RX10 yX10_alike yX10_alike]
def wsL_law_r32 : List Cond := [Cond.code yX10_alike cX10_alike 5 (some .int), Cond.methodLink RL 114 yX9_busy, Cond.instanceMethod yX9_busy, Cond.selects RX9 yX9_busy yX9_busy, Cond.code yX9_busy cX9_busy 5 (some .int), Cond.methodLink RX9 246 yX9_put, Cond.methodLink RL 117 yX10_busy, Cond.instanceMethod yX10_busy, Cond.selects RX10 yX10_busy yX10_busy, Cond.code yX10_busy cX10_busy 4 (some .int), Cond.methodLink RL 118 yX9_flows, Cond.instanceMethod yX9_flows, Cond.selects RX9 yX9_flows yX9_flows, Cond.code yX9_flows cX9_flows 2 (some .int), Cond.methodLink RX9 168 yX9_allReaches, Cond.instanceMethod yX9_allReaches, Cond.selects RX9 yX9_allReaches yX9_allReaches, Cond.code yX9_allReaches cX9_allReaches 1 (some .int), Cond.methodLink RL 121 yX10_flows, Cond.instanceMethod yX10_flows, Cond.selects RX10 yX10_flows yX10_flows, Cond.code yX10_flows cX10_flows 2 (some .int), Cond.methodLink RL 122 yX9_mouths, Cond.instanceMethod yX9_mouths]
def wsL_law_r33 : List Cond := [Cond.selects RX9 yX9_mouths yX9_mouths, Cond.code yX9_mouths cX9_mouths 3 (some .int), Cond.methodLink RL 125 yX10_mouths, Cond.instanceMethod yX10_mouths, Cond.selects RX10 yX10_mouths yX10_mouths, Cond.code yX10_mouths cX10_mouths 3 (some .int), Cond.methodLink RL 126 yX9_springs, Cond.instanceMethod yX9_springs, Cond.selects RX9 yX9_springs yX9_springs, Cond.code yX9_springs cX9_springs 3 (some .int), Cond.methodLink RL 129 yX10_springs, Cond.instanceMethod yX10_springs, Cond.selects RX10 yX10_springs yX10_springs, Cond.code yX10_springs cX10_springs 3 (some .int), Cond.methodLink RL 130 yX9_depth, Cond.instanceMethod yX9_depth, Cond.selects RX9 yX9_depth yX9_depth, Cond.code yX9_depth cX9_depth 4 (some .int), Cond.methodLink RL 133 yX10_depth, Cond.instanceMethod yX10_depth, Cond.selects RX10 yX10_depth yX10_depth, Cond.code yX10_depth cX10_depth 4 (some .int), Cond.methodLink RL 134 yX9_rings, Cond.instanceMethod yX9_rings]
def wsL_law_r34 : List Cond := [Cond.selects RX9 yX9_rings yX9_rings, Cond.code yX9_rings cX9_rings 3 (some .int), Cond.methodLink RX9 253 yX9_isInRing, Cond.instanceMethod yX9_isInRing, Cond.selects RX9 yX9_isInRing yX9_isInRing, Cond.code yX9_isInRing cX9_isInRing 4 (some .boolean), Cond.methodLink RL 137 yX10_rings, Cond.instanceMethod yX10_rings, Cond.selects RX10 yX10_rings yX10_rings, Cond.code yX10_rings cX10_rings 5 (some .int), Cond.methodLink RL 138 yX9_rained, Cond.instanceMethod yX9_rained, Cond.selects RX9 yX9_rained yX9_rained, Cond.code yX9_rained cX9_rained 4 (some .int), Cond.methodLink RL 141 yX10_rained, Cond.instanceMethod yX10_rained, Cond.selects RX10 yX10_rained yX10_rained, Cond.code yX10_rained cX10_rained 4 (some .int), Cond.methodLink RL 142 yX9_lowest, Cond.instanceMethod yX9_lowest, Cond.selects RX9 yX9_lowest yX9_lowest, Cond.code yX9_lowest cX9_lowest 1 (some .int), Cond.methodLink RX9 188 yX9_leastStep, Cond.instanceMethod yX9_leastStep]
def wsL_law_r35 : List Cond := [Cond.selects RX9 yX9_leastStep yX9_leastStep, Cond.code yX9_leastStep cX9_leastStep 3 (some .int), Cond.methodLink RL 145 yX10_lowest, Cond.instanceMethod yX10_lowest, Cond.selects RX10 yX10_lowest yX10_lowest, Cond.code yX10_lowest cX10_lowest 1 (some .int), Cond.methodLink RX10 265 yX10_lowestOf, Cond.instanceMethod yX10_lowestOf, Cond.selects RX10 yX10_lowestOf yX10_lowestOf, Cond.code yX10_lowestOf cX10_lowestOf 3 (some .int), Cond.methodLink RL 146 yX9_deeper, Cond.instanceMethod yX9_deeper, Cond.selects RX9 yX9_deeper yX9_deeper, Cond.code yX9_deeper cX9_deeper 1 (some .int), Cond.methodLink RX9 191 Lib.Math.min.name, Cond.methodLink RL 149 yX10_deeper, Cond.instanceMethod yX10_deeper, Cond.selects RX10 yX10_deeper yX10_deeper, Cond.code yX10_deeper cX10_deeper 1 (some .int), Cond.methodLink RL 150 yX9_goes, Cond.instanceMethod yX9_goes, Cond.selects RX9 yX9_goes yX9_goes, Cond.code yX9_goes cX9_goes 3 (some .int), Cond.methodLink RL 153 yX10_goes]
def wsL_law_r36 : List Cond := [Cond.instanceMethod yX10_goes, Cond.selects RX10 yX10_goes yX10_goes, Cond.code yX10_goes cX10_goes 3 (some .int), Cond.methodLink RL 154 yX9_used, Cond.instanceMethod yX9_used, Cond.selects RX9 yX9_used yX9_used, Cond.code yX9_used cX9_used 3 (some .int), Cond.methodLink RL 157 yX10_used, Cond.instanceMethod yX10_used, Cond.selects RX10 yX10_used yX10_used, Cond.code yX10_used cX10_used 3 (some .int), Cond.methodLink RL 158 yX9_together, Cond.instanceMethod yX9_together, Cond.selects RX9 yX9_together yX9_together, Cond.code yX9_together cX9_together 5 (some .int), Cond.methodLink RL 161 yX10_together, Cond.instanceMethod yX10_together, Cond.selects RX10 yX10_together yX10_together, Cond.code yX10_together cX10_together 6 (some .int), Cond.methodLink RL 162 yX9_again, Cond.instanceMethod yX9_again, Cond.selects RX9 yX9_again yX9_again, Cond.code yX9_again cX9_again 3 (some .int), Cond.methodLink RL 165 yX10_again]
def wsL_law_r37 : List Cond := [Cond.instanceMethod yX10_again, Cond.selects RX10 yX10_again yX10_again, Cond.code yX10_again cX10_again 6 (some .int), Cond.methodLink RL 166 yX9_can, Cond.instanceMethod yX9_can, Cond.selects RX9 yX9_can yX9_can, Cond.code yX9_can cX9_can 4 (some .int), Cond.methodLink RL 169 yX10_can, Cond.instanceMethod yX10_can, Cond.selects RX10 yX10_can yX10_can, Cond.code yX10_can cX10_can 4 (some .int), Cond.methodLink RX10 291 yX10_way, Cond.methodLink RL 170 yX9_slowly, Cond.instanceMethod yX9_slowly, Cond.selects RX9 yX9_slowly yX9_slowly, Cond.code yX9_slowly cX9_slowly 6 (some .int), Cond.methodLink RX9 262 yX9_coming, Cond.instanceMethod yX9_coming, Cond.selects RX9 yX9_coming yX9_coming, Cond.code yX9_coming cX9_coming 4 (some .int), Cond.methodLink RL 173 yX10_slowly, Cond.instanceMethod yX10_slowly, Cond.selects RX10 yX10_slowly yX10_slowly, Cond.code yX10_slowly cX10_slowly 6 (some .int)]
def wsL_law_r38 : List Cond := [Cond.methodLink RX10 294 yX10_areTwo, Cond.instanceMethod yX10_areTwo, Cond.selects RX10 yX10_areTwo yX10_areTwo, Cond.code yX10_areTwo cX10_areTwo 3 (some .boolean), Cond.methodLink RL 174 yX9_mean, Cond.instanceMethod yX9_mean, Cond.selects RX9 yX9_mean yX9_mean, Cond.code yX9_mean cX9_mean 3 (some .long), Cond.constantLong RX9 332 (-2), Cond.methodLink RX9 329 yX9_hasChance, Cond.instanceMethod yX9_hasChance, Cond.selects RX9 yX9_hasChance yX9_hasChance, Cond.code yX9_hasChance cX9_hasChance 2 (some .boolean), Cond.methodLink RX9 334 yX9_weighTo, Cond.instanceMethod yX9_weighTo, Cond.selects RX9 yX9_weighTo yX9_weighTo, Cond.code yX9_weighTo cX9_weighTo 3 none, Cond.methodLink RX9 353 yX9_weighNext, Cond.instanceMethod yX9_weighNext, Cond.selects RX9 yX9_weighNext yX9_weighNext, Cond.code yX9_weighNext cX9_weighNext 2 none, Cond.instanceMethod yX0_begin, Cond.selects RX0 yX0_begin yX0_begin, Cond.code yX0_begin cX0_begin 2 none]
def wsL_law_r39 : List Cond := [Cond.methodLink RX0 26 yX0_clear, Cond.static yX0_clear, Cond.code yX0_clear cX0_clear 3 none, Cond.methodLink RX0 30 yX0_addWeight, Cond.static yX0_addWeight, Cond.code yX0_addWeight cX0_addWeight 4 none, Cond.instanceMethod yX0_advance, Cond.selects RX0 yX0_advance yX0_advance, Cond.code yX0_advance cX0_advance 7 none, Cond.methodLink RX0 34 Lib.Math.max.name, Cond.constantLong RX0 40 (10), Cond.instanceMethod yX0_weightedSum, Cond.selects RX0 yX0_weightedSum yX0_weightedSum, Cond.code yX0_weightedSum cX0_weightedSum 4 (some .long), Cond.methodLink RX9 345 yX9_toldFraction, Cond.static yX9_toldFraction, Cond.code yX9_toldFraction cX9_toldFraction 7 (some .long), Cond.methodLink RX9 449 yX9_commonDivisor, Cond.static yX9_commonDivisor, Cond.code yX9_commonDivisor cX9_commonDivisor 7 (some .long), Cond.methodLink RL 178 yX10_mean, Cond.instanceMethod yX10_mean, Cond.selects RX10 yX10_mean yX10_mean, Cond.code yX10_mean cX10_mean 7 (some .long)]
def wsL_law_r40 : List Cond := [Cond.constantLong RX10 357 (14), Cond.constantLong RX10 361 (-2), Cond.methodLink RX10 363 yX10_startWeights, Cond.instanceMethod yX10_startWeights, Cond.selects RX10 yX10_startWeights yX10_startWeights, Cond.code yX10_startWeights cX10_startWeights 2 none, Cond.methodLink RX10 366 yX10_stepWeights, Cond.instanceMethod yX10_stepWeights, Cond.selects RX10 yX10_stepWeights yX10_stepWeights, Cond.code yX10_stepWeights cX10_stepWeights 4 none, Cond.methodLink RX10 369 yX10_weightFrom, Cond.instanceMethod yX10_weightFrom, Cond.selects RX10 yX10_weightFrom yX10_weightFrom, Cond.code yX10_weightFrom cX10_weightFrom 6 (some .long), Cond.methodLink RX10 372 yX10_divisor, Cond.static yX10_divisor, Cond.code yX10_divisor cX10_divisor 10 (some .long), Cond.methodLink RL 179 yX9_answer, Cond.instanceMethod yX9_answer, Cond.selects RX9 yX9_answer yX9_answer, Cond.code yX9_answer cX9_answer 2 (some .int), Cond.methodLink RX9 317 yX9_isLetOut, Cond.static yX9_isLetOut, Cond.code yX9_isLetOut cX9_isLetOut 1 (some .boolean)]
def wsL_law_r41 : List Cond := [Cond.methodLink RX9 320 yX9_bestAnswer, Cond.static yX9_bestAnswer, Cond.code yX9_bestAnswer cX9_bestAnswer 3 (some .int), Cond.methodLink RX9 326 yX9_share, Cond.static yX9_share, Cond.code yX9_share cX9_share 2 (some .int), Cond.methodLink RL 182 yX10_answer, Cond.instanceMethod yX10_answer, Cond.selects RX10 yX10_answer yX10_answer, Cond.code yX10_answer cX10_answer 4 (some .int), Cond.constantLong RX10 355 (4), Cond.methodLink RX10 349 yX10_hasBy, Cond.static yX10_hasBy, Cond.code yX10_hasBy cX10_hasBy 2 (some .int), Cond.methodLink RL 183 yX9_soon, Cond.instanceMethod yX9_soon, Cond.selects RX9 yX9_soon yX9_soon, Cond.code yX9_soon cX9_soon 7 (some .int), Cond.methodLink RL 186 yX10_soon, Cond.instanceMethod yX10_soon, Cond.selects RX10 yX10_soon yX10_soon, Cond.code yX10_soon cX10_soon 7 (some .int), Cond.constant RX10 297 (1000000000), Cond.methodLink RL 187 yX9_quick]
def wsL_law_r42 : List Cond := [Cond.instanceMethod yX9_quick, Cond.selects RX9 yX9_quick yX9_quick, Cond.code yX9_quick cX9_quick 4 (some .int), Cond.methodLink RX9 266 yX9_quickestStep, Cond.instanceMethod yX9_quickestStep, Cond.selects RX9 yX9_quickestStep yX9_quickestStep, Cond.code yX9_quickestStep cX9_quickestStep 7 (some .int), Cond.methodLink RL 190 yX10_quick, Cond.instanceMethod yX10_quick, Cond.selects RX10 yX10_quick yX10_quick, Cond.code yX10_quick cX10_quick 3 (some .int), Cond.methodLink RX10 301 yX10_quickOf, Cond.instanceMethod yX10_quickOf, Cond.selects RX10 yX10_quickOf yX10_quickOf, Cond.code yX10_quickOf cX10_quickOf 6 (some .int), Cond.fieldLink RX10 298 "QuotedRiverModel" "quickFrom" "I", Cond.methodLink RL 191 yX9_quickly, Cond.instanceMethod yX9_quickly, Cond.selects RX9 yX9_quickly yX9_quickly, Cond.code yX9_quickly cX9_quickly 3 (some .int), Cond.methodLink RL 194 yX10_quickly, Cond.instanceMethod yX10_quickly, Cond.selects RX10 yX10_quickly yX10_quickly, Cond.code yX10_quickly cX10_quickly 3 (some .int)]
def wsL_law_r43 : List Cond := [Cond.methodLink RL 195 yX9_late, Cond.instanceMethod yX9_late, Cond.selects RX9 yX9_late yX9_late, Cond.code yX9_late cX9_late 5 (some .int), Cond.methodLink RL 198 yX10_late, Cond.instanceMethod yX10_late, Cond.selects RX10 yX10_late yX10_late, Cond.code yX10_late cX10_late 5 (some .int), Cond.methodLink RL 199 yX9_often, Cond.instanceMethod yX9_often, Cond.selects RX9 yX9_often yX9_often, Cond.code yX9_often cX9_often 5 (some .int), Cond.methodLink RL 202 yX10_often, Cond.instanceMethod yX10_often, Cond.selects RX10 yX10_often yX10_often, Cond.code yX10_often cX10_often 3 (some .int), Cond.methodLink RX10 304 yX10_oftenOf, Cond.instanceMethod yX10_oftenOf, Cond.selects RX10 yX10_oftenOf yX10_oftenOf, Cond.code yX10_oftenOf cX10_oftenOf 5 (some .int), Cond.methodLink RL 203 yX9_stop, Cond.instanceMethod yX9_stop, Cond.selects RX9 yX9_stop yX9_stop, Cond.code yX9_stop cX9_stop 4 (some .int)]
def wsL_law_r44 : List Cond := [Cond.methodLink RX9 269 yX9_stoppingSet, Cond.instanceMethod yX9_stoppingSet, Cond.selects RX9 yX9_stoppingSet yX9_stoppingSet, Cond.code yX9_stoppingSet cX9_stoppingSet 9 (some .int), Cond.methodLink RX9 414 yX9_noteWays, Cond.instanceMethod yX9_noteWays, Cond.selects RX9 yX9_noteWays yX9_noteWays, Cond.code yX9_noteWays cX9_noteWays 6 (some .int), Cond.instanceMethod yX5_visitedAhead, Cond.selects RX5 yX5_visitedAhead yX5_visitedAhead, Cond.code yX5_visitedAhead cX5_visitedAhead 5 (some .int), Cond.methodLink RX9 272 yJ6_bitCount_0f7a4, Cond.static yJ6_bitCount_0f7a4, Cond.initialized RJ6, Cond.code yJ6_bitCount_0f7a4 cJ6_bitCount_0f7a4 1 (some .int), Cond.constant RJ6 265 (1431655765), Cond.constant RJ6 266 (858993459), Cond.constant RJ6 267 (252645135), Cond.methodLink RX9 417 yX9_cutsAll, Cond.instanceMethod yX9_cutsAll, Cond.selects RX9 yX9_cutsAll yX9_cutsAll, Cond.code yX9_cutsAll cX9_cutsAll 4 (some .boolean), Cond.methodLink RL 206 yX10_stop, Cond.instanceMethod yX10_stop]
def wsL_law_r45 : List Cond := [Cond.selects RX10 yX10_stop yX10_stop, Cond.code yX10_stop cX10_stop 4 (some .int), Cond.methodLink RX10 310 yX10_stopsOf, Cond.instanceMethod yX10_stopsOf, Cond.selects RX10 yX10_stopsOf yX10_stopsOf, Cond.code yX10_stopsOf cX10_stopsOf 5 (some .int), Cond.methodLink RX10 307 yX10_bits, Cond.static yX10_bits, Cond.code yX10_bits cX10_bits 3 (some .int), Cond.methodLink RL 207 yX9_stops, Cond.instanceMethod yX9_stops, Cond.selects RX9 yX9_stops yX9_stops, Cond.code yX9_stops cX9_stops 3 (some .int), Cond.methodLink RL 210 yX10_stops, Cond.instanceMethod yX10_stops, Cond.selects RX10 yX10_stops yX10_stops, Cond.code yX10_stops cX10_stops 3 (some .int), Cond.methodLink RL 211 yX9_shut, Cond.instanceMethod yX9_shut, Cond.selects RX9 yX9_shut yX9_shut, Cond.code yX9_shut cX9_shut 6 (some .int), Cond.instanceMethod yX8_become, Cond.selects RX8 yX8_become yX8_become, Cond.code yX8_become cX8_become 2 none]
def wsL_law_r46 : List Cond := [Cond.methodLink RL 214 yX10_shut, Cond.instanceMethod yX10_shut, Cond.selects RX10 yX10_shut yX10_shut, Cond.code yX10_shut cX10_shut 8 (some .int), Cond.methodLink RX10 313 yX10_seaOf, Cond.instanceMethod yX10_seaOf, Cond.selects RX10 yX10_seaOf yX10_seaOf, Cond.code yX10_seaOf cX10_seaOf 4 (some .int), Cond.methodLink RL 215 yX9_pour, Cond.instanceMethod yX9_pour, Cond.selects RX9 yX9_pour yX9_pour, Cond.code yX9_pour cX9_pour 5 (some .int), Cond.methodLink RL 218 yX10_pour, Cond.instanceMethod yX10_pour, Cond.selects RX10 yX10_pour yX10_pour, Cond.code yX10_pour cX10_pour 6 (some .int), Cond.methodLink RL 219 yX9_fits, Cond.instanceMethod yX9_fits, Cond.selects RX9 yX9_fits yX9_fits, Cond.code yX9_fits cX9_fits 3 (some .int), Cond.methodLink RX9 290 yX9_refuseSeen, Cond.instanceMethod yX9_refuseSeen, Cond.selects RX9 yX9_refuseSeen yX9_refuseSeen, Cond.code yX9_refuseSeen cX9_refuseSeen 3 (some .int)]
def wsL_law_r47 : List Cond := [Cond.methodLink RX9 385 yX9_rowOf, Cond.instanceMethod yX9_rowOf, Cond.selects RX9 yX9_rowOf yX9_rowOf, Cond.code yX9_rowOf cX9_rowOf 2 (some (.object "QuotedRiver$Row")), Cond.instanceMethod yX3_tellsSpots, Cond.selects RX3 yX3_tellsSpots yX3_tellsSpots, Cond.code yX3_tellsSpots cX3_tellsSpots 7 (some .boolean), Cond.constantLong RX3 30 (60), Cond.methodLink RX3 26 yX3_number, Cond.instanceMethod yX3_number, Cond.selects RX3 yX3_number yX3_number, Cond.code yX3_number cX3_number 2 (some .long), Cond.methodLink RX9 293 yX9_search, Cond.instanceMethod yX9_search, Cond.selects RX9 yX9_search yX9_search, Cond.code yX9_search cX9_search 6 (some (.object "QuotedRiver$Sources")), Cond.instanceMethod yX4_clear, Cond.selects RX4 yX4_clear yX4_clear, Cond.code yX4_clear cX4_clear 2 none, Cond.instanceMethod yX3_earliestStep, Cond.selects RX3 yX3_earliestStep yX3_earliestStep, Cond.code yX3_earliestStep cX3_earliestStep 3 (some .int), Cond.methodLink RX3 32 Lib.Math.min.name, Cond.instanceMethod yX5_wasSeen]
def wsL_law_r48 : List Cond := [Cond.selects RX5 yX5_wasSeen yX5_wasSeen, Cond.code yX5_wasSeen cX5_wasSeen 3 (some .boolean), Cond.instanceMethod yX4_add, Cond.selects RX4 yX4_add yX4_add, Cond.code yX4_add cX4_add 2 none, Cond.instanceMethod yX4_note, Cond.selects RX4 yX4_note yX4_note, Cond.code yX4_note cX4_note 4 none, Cond.methodLink RL 222 yX10_fits, Cond.instanceMethod yX10_fits, Cond.selects RX10 yX10_fits yX10_fits, Cond.code yX10_fits cX10_fits 3 (some .int), Cond.fieldLink RX10 327 "QuotedRiverModel" "pairMany" "I", Cond.methodLink RX10 333 yX10_layPairs, Cond.instanceMethod yX10_layPairs, Cond.selects RX10 yX10_layPairs yX10_layPairs, Cond.code yX10_layPairs cX10_layPairs 6 (some .int), Cond.methodLink RX10 323 yX10_askSeen, Cond.instanceMethod yX10_askSeen, Cond.selects RX10 yX10_askSeen yX10_askSeen, Cond.code yX10_askSeen cX10_askSeen 4 (some .int), Cond.methodLink RX10 316 yX10_isSlot, Cond.static yX10_isSlot, Cond.code yX10_isSlot cX10_isSlot 1 (some .boolean)]
def wsL_law_r49 : List Cond := [Cond.methodLink RX10 319 yX10_numberAt, Cond.instanceMethod yX10_numberAt, Cond.selects RX10 yX10_numberAt yX10_numberAt, Cond.code yX10_numberAt cX10_numberAt 3 (some .long), Cond.methodLink RX10 330 yX10_isSeen, Cond.instanceMethod yX10_isSeen, Cond.selects RX10 yX10_isSeen yX10_isSeen, Cond.code yX10_isSeen cX10_isSeen 3 (some .boolean), Cond.methodLink RL 223 yX9_sources, Cond.instanceMethod yX9_sources, Cond.selects RX9 yX9_sources yX9_sources, Cond.code yX9_sources cX9_sources 3 (some .int), Cond.methodLink RL 226 yX10_sources, Cond.instanceMethod yX10_sources, Cond.selects RX10 yX10_sources yX10_sources, Cond.code yX10_sources cX10_sources 5 (some .int), Cond.methodLink RL 227 yX9_source, Cond.instanceMethod yX9_source, Cond.selects RX9 yX9_source yX9_source, Cond.code yX9_source cX9_source 3 (some .int), Cond.methodLink RL 230 yX10_source, Cond.instanceMethod yX10_source, Cond.selects RX10 yX10_source yX10_source, Cond.code yX10_source cX10_source 3 (some .int)]
def wsL_law_r50 : List Cond := [Cond.methodLink RL 231 yX9_ask, Cond.instanceMethod yX9_ask, Cond.selects RX9 yX9_ask yX9_ask, Cond.code yX9_ask cX9_ask 3 (some .int), Cond.instanceMethod yX4_bestStep, Cond.selects RX4 yX4_bestStep yX4_bestStep, Cond.code yX4_bestStep cX4_bestStep 5 (some .int), Cond.methodLink RX4 45 yX4_leftAtWorst, Cond.instanceMethod yX4_leftAtWorst, Cond.selects RX4 yX4_leftAtWorst yX4_leftAtWorst, Cond.code yX4_leftAtWorst cX4_leftAtWorst 4 (some .int), Cond.methodLink RX4 39 Lib.Math.max.name, Cond.methodLink RL 234 yX10_ask, Cond.instanceMethod yX10_ask, Cond.selects RX10 yX10_ask yX10_ask, Cond.code yX10_ask cX10_ask 3 (some .int), Cond.methodLink RX10 339 yX10_askOf, Cond.instanceMethod yX10_askOf, Cond.selects RX10 yX10_askOf yX10_askOf, Cond.code yX10_askOf cX10_askOf 7 (some .int), Cond.fieldLink RX10 336 "QuotedRiverModel" "askWorst" "I", Cond.methodLink RL 235 yX9_doubts, Cond.instanceMethod yX9_doubts, Cond.selects RX9 yX9_doubts yX9_doubts]
def wsL_law_r51 : List Cond := [Cond.code yX9_doubts cX9_doubts 3 (some .int), Cond.instanceMethod yX4_leastLeft, Cond.selects RX4 yX4_leastLeft yX4_leastLeft, Cond.code yX4_leastLeft cX4_leastLeft 2 (some .int), Cond.methodLink RX4 48 yX4_bestStep, Cond.methodLink RL 238 yX10_doubts, Cond.instanceMethod yX10_doubts, Cond.selects RX10 yX10_doubts yX10_doubts, Cond.code yX10_doubts cX10_doubts 3 (some .int), Cond.methodLink RL 239 yX9_turn, Cond.instanceMethod yX9_turn, Cond.selects RX9 yX9_turn yX9_turn, Cond.code yX9_turn cX9_turn 5 (some .int), Cond.methodLink RX9 310 yX9_refuseTurn, Cond.instanceMethod yX9_refuseTurn, Cond.selects RX9 yX9_refuseTurn yX9_refuseTurn, Cond.code yX9_refuseTurn cX9_refuseTurn 4 (some .int), Cond.methodLink RX9 313 yX9_searchTurns, Cond.instanceMethod yX9_searchTurns, Cond.selects RX9 yX9_searchTurns yX9_searchTurns, Cond.code yX9_searchTurns cX9_searchTurns 7 (some (.object "QuotedRiver$Sources")), Cond.methodLink RL 242 yX10_turn, Cond.instanceMethod yX10_turn, Cond.selects RX10 yX10_turn yX10_turn]
def wsL_law_r52 : List Cond := [Cond.code yX10_turn cX10_turn 4 (some .int), Cond.methodLink RX10 345 yX10_layTurns, Cond.instanceMethod yX10_layTurns, Cond.selects RX10 yX10_layTurns yX10_layTurns, Cond.code yX10_layTurns cX10_layTurns 8 (some .int), Cond.fieldLink RX10 342 "QuotedRiverModel" "turnFirst" "I", Cond.methodLink RL 243 yX9_turned, Cond.instanceMethod yX9_turned, Cond.selects RX9 yX9_turned yX9_turned, Cond.code yX9_turned cX9_turned 5 (some .int), Cond.methodLink RL 246 yX10_turned, Cond.instanceMethod yX10_turned, Cond.selects RX10 yX10_turned yX10_turned, Cond.code yX10_turned cX10_turned 5 (some .int), Cond.methodLink RL 247 yX9_rests, Cond.instanceMethod yX9_rests, Cond.selects RX9 yX9_rests yX9_rests, Cond.code yX9_rests cX9_rests 4 (some .int), Cond.methodLink RX9 323 yX9_isRest, Cond.static yX9_isRest, Cond.code yX9_isRest cX9_isRest 2 (some .boolean), Cond.methodLink RL 250 yX10_rests, Cond.instanceMethod yX10_rests, Cond.selects RX10 yX10_rests yX10_rests]
def wsL_law_r53 : List Cond := [Cond.code yX10_rests cX10_rests 3 (some .int), Cond.methodLink RX10 352 yX10_isRest, Cond.static yX10_isRest, Cond.code yX10_isRest cX10_isRest 3 (some .boolean), Cond.methodLink RL 251 yX9_rest, Cond.instanceMethod yX9_rest, Cond.selects RX9 yX9_rest yX9_rest, Cond.code yX9_rest cX9_rest 3 (some .int), Cond.methodLink RL 254 yX10_rest, Cond.instanceMethod yX10_rest, Cond.selects RX10 yX10_rest yX10_rest, Cond.code yX10_rest cX10_rest 2 (some .int), Cond.methodLink RL 255 yX9_has, Cond.instanceMethod yX9_has, Cond.selects RX9 yX9_has yX9_has, Cond.code yX9_has cX9_has 3 (some .int), Cond.methodLink RL 258 yX10_has, Cond.instanceMethod yX10_has, Cond.selects RX10 yX10_has yX10_has, Cond.code yX10_has cX10_has 3 (some .int), Cond.methodLink RL 259 yX9_treaty, Cond.instanceMethod yX9_treaty, Cond.selects RX9 yX9_treaty yX9_treaty, Cond.code yX9_treaty cX9_treaty 4 (some .int)]
def wsL_law_r54 : List Cond := [Cond.methodLink RL 262 yX10_treaty, Cond.instanceMethod yX10_treaty, Cond.selects RX10 yX10_treaty yX10_treaty, Cond.code yX10_treaty cX10_treaty 3 (some .int), Cond.methodLink RL 263 yX9_chance, Cond.instanceMethod yX9_chance, Cond.selects RX9 yX9_chance yX9_chance, Cond.code yX9_chance cX9_chance 4 (some .long), Cond.instanceMethod yX0_weightBelow, Cond.selects RX0 yX0_weightBelow yX0_weightBelow, Cond.code yX0_weightBelow cX0_weightBelow 5 (some .long), Cond.methodLink RL 267 yX10_chance, Cond.instanceMethod yX10_chance, Cond.selects RX10 yX10_chance yX10_chance, Cond.code yX10_chance cX10_chance 8 (some .long), Cond.constantLong RX10 359 (99), Cond.methodLink RL 268 yX9_risk, Cond.instanceMethod yX9_risk, Cond.selects RX9 yX9_risk yX9_risk, Cond.code yX9_risk cX9_risk 5 (some .int), Cond.constantLong RX9 356 (100), Cond.methodLink RL 271 yX10_risk, Cond.instanceMethod yX10_risk, Cond.selects RX10 yX10_risk yX10_risk]
def wsL_law_r55 : List Cond := [Cond.code yX10_risk cX10_risk 4 (some .int), Cond.constantLong RX10 376 (100), Cond.methodLink RL 272 yX9_close, Cond.instanceMethod yX9_close, Cond.selects RX9 yX9_close yX9_close, Cond.code yX9_close cX9_close 4 (some .int), Cond.instanceMethod yX2_addAct, Cond.selects RX2 yX2_addAct yX2_addAct, Cond.code yX2_addAct cX2_addAct 4 none, Cond.methodLink RL 275 yX10_close, Cond.instanceMethod yX10_close, Cond.selects RX10 yX10_close yX10_close, Cond.code yX10_close cX10_close 4 (some .int), Cond.methodLink RX10 378 yX10_keepAct, Cond.instanceMethod yX10_keepAct, Cond.selects RX10 yX10_keepAct yX10_keepAct, Cond.code yX10_keepAct cX10_keepAct 2 (some .int), Cond.methodLink RL 276 yX9_pours, Cond.instanceMethod yX9_pours, Cond.selects RX9 yX9_pours yX9_pours, Cond.code yX9_pours cX9_pours 3 (some .int), Cond.methodLink RL 279 yX10_pours, Cond.instanceMethod yX10_pours, Cond.selects RX10 yX10_pours yX10_pours]
def wsL_law_r56 : List Cond := [Cond.code yX10_pours cX10_pours 3 (some .int), Cond.constantLong RX10 381 (30), Cond.methodLink RL 280 yX9_undo, Cond.instanceMethod yX9_undo, Cond.selects RX9 yX9_undo yX9_undo, Cond.code yX9_undo cX9_undo 1 (some .int), Cond.methodLink RL 283 yX10_undo, Cond.instanceMethod yX10_undo, Cond.selects RX10 yX10_undo yX10_undo, Cond.code yX10_undo cX10_undo 1 (some .int), Cond.methodLink RL 284 yX9_anew, Cond.instanceMethod yX9_anew, Cond.selects RX9 yX9_anew yX9_anew, Cond.code yX9_anew cX9_anew 2 (some .int), Cond.methodLink RL 287 yX10_anew, Cond.instanceMethod yX10_anew, Cond.selects RX10 yX10_anew yX10_anew, Cond.code yX10_anew cX10_anew 2 (some .int), Cond.methodLink RL 288 yX9_drawn, Cond.instanceMethod yX9_drawn, Cond.selects RX9 yX9_drawn yX9_drawn, Cond.code yX9_drawn cX9_drawn 4 (some .int), Cond.methodLink RX9 358 yX9_isSeed, Cond.static yX9_isSeed]
def wsL_law_r57 : List Cond := [Cond.code yX9_isSeed cX9_isSeed 1 (some .boolean), Cond.constant RX9 413 (2000000000), Cond.methodLink RX9 361 yX9_drawDay, Cond.instanceMethod yX9_drawDay, Cond.selects RX9 yX9_drawDay yX9_drawDay, Cond.code yX9_drawDay cX9_drawDay 7 (some .int), Cond.constantLong RX9 453 (1103515245), Cond.constantLong RX9 455 (12345), Cond.constantLong RX9 457 (2147483648), Cond.constantLong RX9 459 (65536), Cond.constantLong RX9 461 (10), Cond.methodLink RL 291 yX10_drawn, Cond.instanceMethod yX10_drawn, Cond.selects RX10 yX10_drawn yX10_drawn, Cond.code yX10_drawn cX10_drawn 3 (some .int), Cond.fieldLink RX10 383 "QuotedRiverModel" "rainMany" "I", Cond.methodLink RX10 398 yX10_isSeed, Cond.static yX10_isSeed, Cond.code yX10_isSeed cX10_isSeed 1 (some .boolean), Cond.constantLong RX10 396 (2000000000), Cond.methodLink RX10 401 yX10_goDrawn, Cond.instanceMethod yX10_goDrawn, Cond.selects RX10 yX10_goDrawn yX10_goDrawn, Cond.code yX10_goDrawn cX10_goDrawn 6 none]
def wsL_law_r58 : List Cond := [Cond.constantLong RX10 386 (1103515245), Cond.constantLong RX10 388 (12345), Cond.constantLong RX10 390 (2147483648), Cond.constantLong RX10 392 (65536), Cond.constantLong RX10 394 (10), Cond.methodLink RL 292 yX9_luck, Cond.instanceMethod yX9_luck, Cond.selects RX9 yX9_luck yX9_luck, Cond.code yX9_luck cX9_luck 6 (some .int), Cond.methodLink RL 295 yX10_luck, Cond.instanceMethod yX10_luck, Cond.selects RX10 yX10_luck yX10_luck, Cond.code yX10_luck cX10_luck 6 (some .int), Cond.constantLong RX10 405 (20), Cond.methodLink RL 296 yX9_deepen, Cond.instanceMethod yX9_deepen, Cond.selects RX9 yX9_deepen yX9_deepen, Cond.code yX9_deepen cX9_deepen 4 (some .int), Cond.methodLink RL 299 yX10_deepen, Cond.instanceMethod yX10_deepen, Cond.selects RX10 yX10_deepen yX10_deepen, Cond.code yX10_deepen cX10_deepen 4 (some .int), Cond.methodLink RL 300 yX9_count, Cond.instanceMethod yX9_count]
def wsL_law_r59 : List Cond := [Cond.selects RX9 yX9_count yX9_count, Cond.code yX9_count cX9_count 2 (some .int), Cond.methodLink RX9 378 yX9_rowsThere, Cond.instanceMethod yX9_rowsThere, Cond.selects RX9 yX9_rowsThere yX9_rowsThere, Cond.code yX9_rowsThere cX9_rowsThere 6 (some .int), Cond.methodLink RL 303 yX10_count, Cond.instanceMethod yX10_count, Cond.selects RX10 yX10_count yX10_count, Cond.code yX10_count cX10_count 4 (some .int), Cond.constantLong RX10 407 (7), Cond.methodLink RL 304 yX9_image, Cond.instanceMethod yX9_image, Cond.selects RX9 yX9_image yX9_image, Cond.code yX9_image cX9_image 3 (some .int), Cond.methodLink RX9 381 yX9_imageOf, Cond.instanceMethod yX9_imageOf, Cond.selects RX9 yX9_imageOf yX9_imageOf, Cond.code yX9_imageOf cX9_imageOf 2 (some (.object "QuotedRiver$Rivers")), Cond.methodLink RL 307 yX10_image, Cond.instanceMethod yX10_image, Cond.selects RX10 yX10_image yX10_image, Cond.code yX10_image cX10_image 3 (some .int), Cond.methodLink RL 308 yX9_back]
def wsL_law_r60 : List Cond := [Cond.instanceMethod yX9_back, Cond.selects RX9 yX9_back yX9_back, Cond.code yX9_back cX9_back 3 (some .int), Cond.methodLink RL 311 yX10_back, Cond.instanceMethod yX10_back, Cond.selects RX10 yX10_back yX10_back, Cond.code yX10_back cX10_back 3 (some .int), Cond.methodLink RL 312 yX9_row, Cond.instanceMethod yX9_row, Cond.selects RX9 yX9_row yX9_row, Cond.code yX9_row cX9_row 5 (some .int), Cond.instanceMethod yX3_lay, Cond.selects RX3 yX3_lay yX3_lay, Cond.code yX3_lay cX3_lay 4 none, Cond.methodLink RL 315 yX10_row, Cond.instanceMethod yX10_row, Cond.selects RX10 yX10_row yX10_row, Cond.code yX10_row cX10_row 5 (some .int), Cond.methodLink RL 318 yX9_write, Cond.instanceMethod yX9_write, Cond.selects RX9 yX9_write yX9_write, Cond.code yX9_write cX9_write 6 (some .int), Cond.methodLink RX9 399 yX9_cut, Cond.static yX9_cut]
def wsL_law_r61 : List Cond := [Cond.code yX9_cut cX9_cut 3 (some .long), Cond.instanceMethod yX3_store, Cond.selects RX3 yX3_store yX3_store, Cond.code yX3_store cX3_store 4 none, Cond.methodLink RL 322 yX10_write, Cond.instanceMethod yX10_write, Cond.selects RX10 yX10_write yX10_write, Cond.code yX10_write cX10_write 5 (some .int), Cond.methodLink RX10 409 yX10_cut, Cond.static yX10_cut, Cond.code yX10_cut cX10_cut 4 (some .long), Cond.methodLink RL 323 yX9_paste, Cond.instanceMethod yX9_paste, Cond.selects RX9 yX9_paste yX9_paste, Cond.code yX9_paste cX9_paste 11 (some .int), Cond.instanceMethod yX3_reachesOver, Cond.selects RX3 yX3_reachesOver yX3_reachesOver, Cond.code yX3_reachesOver cX3_reachesOver 3 (some .boolean), Cond.methodLink RL 326 yX10_paste, Cond.instanceMethod yX10_paste, Cond.selects RX10 yX10_paste yX10_paste, Cond.code yX10_paste cX10_paste 7 (some .int)]
def wsL_law : List Cond := (wsL_law_r1 ++ (wsL_law_r2 ++ (wsL_law_r3 ++ (wsL_law_r4 ++ (wsL_law_r5 ++ (wsL_law_r6 ++ (wsL_law_r7 ++ (wsL_law_r8 ++ (wsL_law_r9 ++ (wsL_law_r10 ++ (wsL_law_r11 ++ (wsL_law_r12 ++ (wsL_law_r13 ++ (wsL_law_r14 ++ (wsL_law_r15 ++ (wsL_law_r16 ++ (wsL_law_r17 ++ (wsL_law_r18 ++ (wsL_law_r19 ++ (wsL_law_r20 ++ (wsL_law_r21 ++ (wsL_law_r22 ++ (wsL_law_r23 ++ (wsL_law_r24 ++ (wsL_law_r25 ++ (wsL_law_r26 ++ (wsL_law_r27 ++ (wsL_law_r28 ++ (wsL_law_r29 ++ (wsL_law_r30 ++ (wsL_law_r31 ++ (wsL_law_r32 ++ (wsL_law_r33 ++ (wsL_law_r34 ++ (wsL_law_r35 ++ (wsL_law_r36 ++ (wsL_law_r37 ++ (wsL_law_r38 ++ (wsL_law_r39 ++ (wsL_law_r40 ++ (wsL_law_r41 ++ (wsL_law_r42 ++ (wsL_law_r43 ++ (wsL_law_r44 ++ (wsL_law_r45 ++ (wsL_law_r46 ++ (wsL_law_r47 ++ (wsL_law_r48 ++ (wsL_law_r49 ++ (wsL_law_r50 ++ (wsL_law_r51 ++ (wsL_law_r52 ++ (wsL_law_r53 ++ (wsL_law_r54 ++ (wsL_law_r55 ++ (wsL_law_r56 ++ (wsL_law_r57 ++ (wsL_law_r58 ++ (wsL_law_r59 ++ (wsL_law_r60 ++ wsL_law_r61)))))))))))))))))))))))))))))))))))))))))))))))))))))))))))) ++ wsX90 ++ wsX100 ++ wsX60 ++ wsX10 ++ wsX20 ++ wsX80 ++ wsX50 ++ wsX40 ++ wsX00 ++ wsX30 ++ wsX70 ++ ([] : List Cond)
theorem inlX0 : ∀ w ∈ wsX00, w ∈ wsL_law := fun _ h => List.mem_append_left _ (List.mem_append_left _ (List.mem_append_left _ (List.mem_append_right _ h)))
theorem inlX1 : ∀ w ∈ wsX10, w ∈ wsL_law := fun _ h => List.mem_append_left _ (List.mem_append_left _ (List.mem_append_left _ (List.mem_append_left _ (List.mem_append_left _ (List.mem_append_left _ (List.mem_append_left _ (List.mem_append_left _ (List.mem_append_right _ h))))))))
theorem inlX2 : ∀ w ∈ wsX20, w ∈ wsL_law := fun _ h => List.mem_append_left _ (List.mem_append_left _ (List.mem_append_left _ (List.mem_append_left _ (List.mem_append_left _ (List.mem_append_left _ (List.mem_append_left _ (List.mem_append_right _ h)))))))
theorem inlX3 : ∀ w ∈ wsX30, w ∈ wsL_law := fun _ h => List.mem_append_left _ (List.mem_append_left _ (List.mem_append_right _ h))
theorem inlX4 : ∀ w ∈ wsX40, w ∈ wsL_law := fun _ h => List.mem_append_left _ (List.mem_append_left _ (List.mem_append_left _ (List.mem_append_left _ (List.mem_append_right _ h))))
theorem inlX5 : ∀ w ∈ wsX50, w ∈ wsL_law := fun _ h => List.mem_append_left _ (List.mem_append_left _ (List.mem_append_left _ (List.mem_append_left _ (List.mem_append_left _ (List.mem_append_right _ h)))))
theorem inlX6 : ∀ w ∈ wsX60, w ∈ wsL_law := fun _ h => List.mem_append_left _ (List.mem_append_left _ (List.mem_append_left _ (List.mem_append_left _ (List.mem_append_left _ (List.mem_append_left _ (List.mem_append_left _ (List.mem_append_left _ (List.mem_append_left _ (List.mem_append_right _ h)))))))))
theorem inlX7 : ∀ w ∈ wsX70, w ∈ wsL_law := fun _ h => List.mem_append_left _ (List.mem_append_right _ h)
theorem inlX8 : ∀ w ∈ wsX80, w ∈ wsL_law := fun _ h => List.mem_append_left _ (List.mem_append_left _ (List.mem_append_left _ (List.mem_append_left _ (List.mem_append_left _ (List.mem_append_left _ (List.mem_append_right _ h))))))
theorem inlX9 : ∀ w ∈ wsX90, w ∈ wsL_law := fun _ h => List.mem_append_left _ (List.mem_append_left _ (List.mem_append_left _ (List.mem_append_left _ (List.mem_append_left _ (List.mem_append_left _ (List.mem_append_left _ (List.mem_append_left _ (List.mem_append_left _ (List.mem_append_left _ (List.mem_append_left _ (List.mem_append_right _ h)))))))))))
theorem inlX10 : ∀ w ∈ wsX100, w ∈ wsL_law := fun _ h => List.mem_append_left _ (List.mem_append_left _ (List.mem_append_left _ (List.mem_append_left _ (List.mem_append_left _ (List.mem_append_left _ (List.mem_append_left _ (List.mem_append_left _ (List.mem_append_left _ (List.mem_append_left _ (List.mem_append_right _ h))))))))))
set_option maxRecDepth 100000 in
theorem wl_good : wsL_law.all goodWord = true := by decide +kernel
theorem G_all {c c' : Cond} (h : c' ∈ wsL_law) : GoodIn (c :: wsL_law) (c' :: wsL_law) := by
  have hg : ∀ w ∈ wsL_law, goodWord w = true := fun w hw => List.all_eq_true.mp wl_good w hw
  intro w hw
  rcases List.mem_cons.mp hw with rfl | hw
  · exact ⟨List.mem_cons_of_mem _ h, good_of_word (hg _ h)⟩
  · exact ⟨List.mem_cons_of_mem _ hw, good_of_word (hg _ hw)⟩
def dchk (c : ByteArray) (L : List (Nat × Instr × Nat)) : Bool := L.all (fun q => decide (decode c q.1 = .ok (q.2.1, q.2.2)))
theorem dget {c : ByteArray} {L : List (Nat × Instr × Nat)} (h : dchk c L = true) {pc n : Nat} {i : Instr} (k : Nat) (hk : L[k]? = some (pc, i, n)) : decode c pc = .ok (i, n) := of_decide_eq_true (List.all_eq_true.mp h (pc, i, n) (List.mem_of_getElem? hk))
theorem wr_1 : ∀ w ∈ wsL_law_r1, w ∈ wsL_law := fun _ h => List.mem_append_left _ (List.mem_append_left _ (List.mem_append_left _ (List.mem_append_left _ (List.mem_append_left _ (List.mem_append_left _ (List.mem_append_left _ (List.mem_append_left _ (List.mem_append_left _ (List.mem_append_left _ (List.mem_append_left _ (List.mem_append_left _ (List.mem_append_left _ h))))))))))))
theorem wr_2 : ∀ w ∈ wsL_law_r2, w ∈ wsL_law := fun _ h => List.mem_append_left _ (List.mem_append_left _ (List.mem_append_left _ (List.mem_append_left _ (List.mem_append_left _ (List.mem_append_left _ (List.mem_append_left _ (List.mem_append_left _ (List.mem_append_left _ (List.mem_append_left _ (List.mem_append_left _ (List.mem_append_left _ (List.mem_append_right _ (List.mem_append_left _ h)))))))))))))
theorem wr_3 : ∀ w ∈ wsL_law_r3, w ∈ wsL_law := fun _ h => List.mem_append_left _ (List.mem_append_left _ (List.mem_append_left _ (List.mem_append_left _ (List.mem_append_left _ (List.mem_append_left _ (List.mem_append_left _ (List.mem_append_left _ (List.mem_append_left _ (List.mem_append_left _ (List.mem_append_left _ (List.mem_append_left _ (List.mem_append_right _ (List.mem_append_right _ (List.mem_append_left _ h))))))))))))))
theorem wr_4 : ∀ w ∈ wsL_law_r4, w ∈ wsL_law := fun _ h => List.mem_append_left _ (List.mem_append_left _ (List.mem_append_left _ (List.mem_append_left _ (List.mem_append_left _ (List.mem_append_left _ (List.mem_append_left _ (List.mem_append_left _ (List.mem_append_left _ (List.mem_append_left _ (List.mem_append_left _ (List.mem_append_left _ (List.mem_append_right _ (List.mem_append_right _ (List.mem_append_right _ (List.mem_append_left _ h)))))))))))))))
theorem wr_5 : ∀ w ∈ wsL_law_r5, w ∈ wsL_law := fun _ h => List.mem_append_left _ (List.mem_append_left _ (List.mem_append_left _ (List.mem_append_left _ (List.mem_append_left _ (List.mem_append_left _ (List.mem_append_left _ (List.mem_append_left _ (List.mem_append_left _ (List.mem_append_left _ (List.mem_append_left _ (List.mem_append_left _ (List.mem_append_right _ (List.mem_append_right _ (List.mem_append_right _ (List.mem_append_right _ (List.mem_append_left _ h))))))))))))))))
theorem wr_6 : ∀ w ∈ wsL_law_r6, w ∈ wsL_law := fun _ h => List.mem_append_left _ (List.mem_append_left _ (List.mem_append_left _ (List.mem_append_left _ (List.mem_append_left _ (List.mem_append_left _ (List.mem_append_left _ (List.mem_append_left _ (List.mem_append_left _ (List.mem_append_left _ (List.mem_append_left _ (List.mem_append_left _ (List.mem_append_right _ (List.mem_append_right _ (List.mem_append_right _ (List.mem_append_right _ (List.mem_append_right _ (List.mem_append_left _ h)))))))))))))))))
theorem wr_7 : ∀ w ∈ wsL_law_r7, w ∈ wsL_law := fun _ h => List.mem_append_left _ (List.mem_append_left _ (List.mem_append_left _ (List.mem_append_left _ (List.mem_append_left _ (List.mem_append_left _ (List.mem_append_left _ (List.mem_append_left _ (List.mem_append_left _ (List.mem_append_left _ (List.mem_append_left _ (List.mem_append_left _ (List.mem_append_right _ (List.mem_append_right _ (List.mem_append_right _ (List.mem_append_right _ (List.mem_append_right _ (List.mem_append_right _ (List.mem_append_left _ h))))))))))))))))))
theorem wr_8 : ∀ w ∈ wsL_law_r8, w ∈ wsL_law := fun _ h => List.mem_append_left _ (List.mem_append_left _ (List.mem_append_left _ (List.mem_append_left _ (List.mem_append_left _ (List.mem_append_left _ (List.mem_append_left _ (List.mem_append_left _ (List.mem_append_left _ (List.mem_append_left _ (List.mem_append_left _ (List.mem_append_left _ (List.mem_append_right _ (List.mem_append_right _ (List.mem_append_right _ (List.mem_append_right _ (List.mem_append_right _ (List.mem_append_right _ (List.mem_append_right _ (List.mem_append_left _ h)))))))))))))))))))
theorem wr_9 : ∀ w ∈ wsL_law_r9, w ∈ wsL_law := fun _ h => List.mem_append_left _ (List.mem_append_left _ (List.mem_append_left _ (List.mem_append_left _ (List.mem_append_left _ (List.mem_append_left _ (List.mem_append_left _ (List.mem_append_left _ (List.mem_append_left _ (List.mem_append_left _ (List.mem_append_left _ (List.mem_append_left _ (List.mem_append_right _ (List.mem_append_right _ (List.mem_append_right _ (List.mem_append_right _ (List.mem_append_right _ (List.mem_append_right _ (List.mem_append_right _ (List.mem_append_right _ (List.mem_append_left _ h))))))))))))))))))))
theorem wr_10 : ∀ w ∈ wsL_law_r10, w ∈ wsL_law := fun _ h => List.mem_append_left _ (List.mem_append_left _ (List.mem_append_left _ (List.mem_append_left _ (List.mem_append_left _ (List.mem_append_left _ (List.mem_append_left _ (List.mem_append_left _ (List.mem_append_left _ (List.mem_append_left _ (List.mem_append_left _ (List.mem_append_left _ (List.mem_append_right _ (List.mem_append_right _ (List.mem_append_right _ (List.mem_append_right _ (List.mem_append_right _ (List.mem_append_right _ (List.mem_append_right _ (List.mem_append_right _ (List.mem_append_right _ (List.mem_append_left _ h)))))))))))))))))))))
theorem wr_11 : ∀ w ∈ wsL_law_r11, w ∈ wsL_law := fun _ h => List.mem_append_left _ (List.mem_append_left _ (List.mem_append_left _ (List.mem_append_left _ (List.mem_append_left _ (List.mem_append_left _ (List.mem_append_left _ (List.mem_append_left _ (List.mem_append_left _ (List.mem_append_left _ (List.mem_append_left _ (List.mem_append_left _ (List.mem_append_right _ (List.mem_append_right _ (List.mem_append_right _ (List.mem_append_right _ (List.mem_append_right _ (List.mem_append_right _ (List.mem_append_right _ (List.mem_append_right _ (List.mem_append_right _ (List.mem_append_right _ (List.mem_append_left _ h))))))))))))))))))))))
theorem wr_12 : ∀ w ∈ wsL_law_r12, w ∈ wsL_law := fun _ h => List.mem_append_left _ (List.mem_append_left _ (List.mem_append_left _ (List.mem_append_left _ (List.mem_append_left _ (List.mem_append_left _ (List.mem_append_left _ (List.mem_append_left _ (List.mem_append_left _ (List.mem_append_left _ (List.mem_append_left _ (List.mem_append_left _ (List.mem_append_right _ (List.mem_append_right _ (List.mem_append_right _ (List.mem_append_right _ (List.mem_append_right _ (List.mem_append_right _ (List.mem_append_right _ (List.mem_append_right _ (List.mem_append_right _ (List.mem_append_right _ (List.mem_append_right _ (List.mem_append_left _ h)))))))))))))))))))))))
theorem wr_13 : ∀ w ∈ wsL_law_r13, w ∈ wsL_law := fun _ h => List.mem_append_left _ (List.mem_append_left _ (List.mem_append_left _ (List.mem_append_left _ (List.mem_append_left _ (List.mem_append_left _ (List.mem_append_left _ (List.mem_append_left _ (List.mem_append_left _ (List.mem_append_left _ (List.mem_append_left _ (List.mem_append_left _ (List.mem_append_right _ (List.mem_append_right _ (List.mem_append_right _ (List.mem_append_right _ (List.mem_append_right _ (List.mem_append_right _ (List.mem_append_right _ (List.mem_append_right _ (List.mem_append_right _ (List.mem_append_right _ (List.mem_append_right _ (List.mem_append_right _ (List.mem_append_left _ h))))))))))))))))))))))))
theorem wr_14 : ∀ w ∈ wsL_law_r14, w ∈ wsL_law := fun _ h => List.mem_append_left _ (List.mem_append_left _ (List.mem_append_left _ (List.mem_append_left _ (List.mem_append_left _ (List.mem_append_left _ (List.mem_append_left _ (List.mem_append_left _ (List.mem_append_left _ (List.mem_append_left _ (List.mem_append_left _ (List.mem_append_left _ (List.mem_append_right _ (List.mem_append_right _ (List.mem_append_right _ (List.mem_append_right _ (List.mem_append_right _ (List.mem_append_right _ (List.mem_append_right _ (List.mem_append_right _ (List.mem_append_right _ (List.mem_append_right _ (List.mem_append_right _ (List.mem_append_right _ (List.mem_append_right _ (List.mem_append_left _ h)))))))))))))))))))))))))
theorem wr_15 : ∀ w ∈ wsL_law_r15, w ∈ wsL_law := fun _ h => List.mem_append_left _ (List.mem_append_left _ (List.mem_append_left _ (List.mem_append_left _ (List.mem_append_left _ (List.mem_append_left _ (List.mem_append_left _ (List.mem_append_left _ (List.mem_append_left _ (List.mem_append_left _ (List.mem_append_left _ (List.mem_append_left _ (List.mem_append_right _ (List.mem_append_right _ (List.mem_append_right _ (List.mem_append_right _ (List.mem_append_right _ (List.mem_append_right _ (List.mem_append_right _ (List.mem_append_right _ (List.mem_append_right _ (List.mem_append_right _ (List.mem_append_right _ (List.mem_append_right _ (List.mem_append_right _ (List.mem_append_right _ (List.mem_append_left _ h))))))))))))))))))))))))))
theorem wr_16 : ∀ w ∈ wsL_law_r16, w ∈ wsL_law := fun _ h => List.mem_append_left _ (List.mem_append_left _ (List.mem_append_left _ (List.mem_append_left _ (List.mem_append_left _ (List.mem_append_left _ (List.mem_append_left _ (List.mem_append_left _ (List.mem_append_left _ (List.mem_append_left _ (List.mem_append_left _ (List.mem_append_left _ (List.mem_append_right _ (List.mem_append_right _ (List.mem_append_right _ (List.mem_append_right _ (List.mem_append_right _ (List.mem_append_right _ (List.mem_append_right _ (List.mem_append_right _ (List.mem_append_right _ (List.mem_append_right _ (List.mem_append_right _ (List.mem_append_right _ (List.mem_append_right _ (List.mem_append_right _ (List.mem_append_right _ (List.mem_append_left _ h)))))))))))))))))))))))))))
theorem wr_17 : ∀ w ∈ wsL_law_r17, w ∈ wsL_law := fun _ h => List.mem_append_left _ (List.mem_append_left _ (List.mem_append_left _ (List.mem_append_left _ (List.mem_append_left _ (List.mem_append_left _ (List.mem_append_left _ (List.mem_append_left _ (List.mem_append_left _ (List.mem_append_left _ (List.mem_append_left _ (List.mem_append_left _ (List.mem_append_right _ (List.mem_append_right _ (List.mem_append_right _ (List.mem_append_right _ (List.mem_append_right _ (List.mem_append_right _ (List.mem_append_right _ (List.mem_append_right _ (List.mem_append_right _ (List.mem_append_right _ (List.mem_append_right _ (List.mem_append_right _ (List.mem_append_right _ (List.mem_append_right _ (List.mem_append_right _ (List.mem_append_right _ (List.mem_append_left _ h))))))))))))))))))))))))))))
theorem wr_18 : ∀ w ∈ wsL_law_r18, w ∈ wsL_law := fun _ h => List.mem_append_left _ (List.mem_append_left _ (List.mem_append_left _ (List.mem_append_left _ (List.mem_append_left _ (List.mem_append_left _ (List.mem_append_left _ (List.mem_append_left _ (List.mem_append_left _ (List.mem_append_left _ (List.mem_append_left _ (List.mem_append_left _ (List.mem_append_right _ (List.mem_append_right _ (List.mem_append_right _ (List.mem_append_right _ (List.mem_append_right _ (List.mem_append_right _ (List.mem_append_right _ (List.mem_append_right _ (List.mem_append_right _ (List.mem_append_right _ (List.mem_append_right _ (List.mem_append_right _ (List.mem_append_right _ (List.mem_append_right _ (List.mem_append_right _ (List.mem_append_right _ (List.mem_append_right _ (List.mem_append_left _ h)))))))))))))))))))))))))))))
theorem wr_19 : ∀ w ∈ wsL_law_r19, w ∈ wsL_law := fun _ h => List.mem_append_left _ (List.mem_append_left _ (List.mem_append_left _ (List.mem_append_left _ (List.mem_append_left _ (List.mem_append_left _ (List.mem_append_left _ (List.mem_append_left _ (List.mem_append_left _ (List.mem_append_left _ (List.mem_append_left _ (List.mem_append_left _ (List.mem_append_right _ (List.mem_append_right _ (List.mem_append_right _ (List.mem_append_right _ (List.mem_append_right _ (List.mem_append_right _ (List.mem_append_right _ (List.mem_append_right _ (List.mem_append_right _ (List.mem_append_right _ (List.mem_append_right _ (List.mem_append_right _ (List.mem_append_right _ (List.mem_append_right _ (List.mem_append_right _ (List.mem_append_right _ (List.mem_append_right _ (List.mem_append_right _ (List.mem_append_left _ h))))))))))))))))))))))))))))))
theorem wr_20 : ∀ w ∈ wsL_law_r20, w ∈ wsL_law := fun _ h => List.mem_append_left _ (List.mem_append_left _ (List.mem_append_left _ (List.mem_append_left _ (List.mem_append_left _ (List.mem_append_left _ (List.mem_append_left _ (List.mem_append_left _ (List.mem_append_left _ (List.mem_append_left _ (List.mem_append_left _ (List.mem_append_left _ (List.mem_append_right _ (List.mem_append_right _ (List.mem_append_right _ (List.mem_append_right _ (List.mem_append_right _ (List.mem_append_right _ (List.mem_append_right _ (List.mem_append_right _ (List.mem_append_right _ (List.mem_append_right _ (List.mem_append_right _ (List.mem_append_right _ (List.mem_append_right _ (List.mem_append_right _ (List.mem_append_right _ (List.mem_append_right _ (List.mem_append_right _ (List.mem_append_right _ (List.mem_append_right _ (List.mem_append_left _ h)))))))))))))))))))))))))))))))
theorem wr_21 : ∀ w ∈ wsL_law_r21, w ∈ wsL_law := fun _ h => List.mem_append_left _ (List.mem_append_left _ (List.mem_append_left _ (List.mem_append_left _ (List.mem_append_left _ (List.mem_append_left _ (List.mem_append_left _ (List.mem_append_left _ (List.mem_append_left _ (List.mem_append_left _ (List.mem_append_left _ (List.mem_append_left _ (List.mem_append_right _ (List.mem_append_right _ (List.mem_append_right _ (List.mem_append_right _ (List.mem_append_right _ (List.mem_append_right _ (List.mem_append_right _ (List.mem_append_right _ (List.mem_append_right _ (List.mem_append_right _ (List.mem_append_right _ (List.mem_append_right _ (List.mem_append_right _ (List.mem_append_right _ (List.mem_append_right _ (List.mem_append_right _ (List.mem_append_right _ (List.mem_append_right _ (List.mem_append_right _ (List.mem_append_right _ (List.mem_append_left _ h))))))))))))))))))))))))))))))))
theorem wr_22 : ∀ w ∈ wsL_law_r22, w ∈ wsL_law := fun _ h => List.mem_append_left _ (List.mem_append_left _ (List.mem_append_left _ (List.mem_append_left _ (List.mem_append_left _ (List.mem_append_left _ (List.mem_append_left _ (List.mem_append_left _ (List.mem_append_left _ (List.mem_append_left _ (List.mem_append_left _ (List.mem_append_left _ (List.mem_append_right _ (List.mem_append_right _ (List.mem_append_right _ (List.mem_append_right _ (List.mem_append_right _ (List.mem_append_right _ (List.mem_append_right _ (List.mem_append_right _ (List.mem_append_right _ (List.mem_append_right _ (List.mem_append_right _ (List.mem_append_right _ (List.mem_append_right _ (List.mem_append_right _ (List.mem_append_right _ (List.mem_append_right _ (List.mem_append_right _ (List.mem_append_right _ (List.mem_append_right _ (List.mem_append_right _ (List.mem_append_right _ (List.mem_append_left _ h)))))))))))))))))))))))))))))))))
theorem wr_23 : ∀ w ∈ wsL_law_r23, w ∈ wsL_law := fun _ h => List.mem_append_left _ (List.mem_append_left _ (List.mem_append_left _ (List.mem_append_left _ (List.mem_append_left _ (List.mem_append_left _ (List.mem_append_left _ (List.mem_append_left _ (List.mem_append_left _ (List.mem_append_left _ (List.mem_append_left _ (List.mem_append_left _ (List.mem_append_right _ (List.mem_append_right _ (List.mem_append_right _ (List.mem_append_right _ (List.mem_append_right _ (List.mem_append_right _ (List.mem_append_right _ (List.mem_append_right _ (List.mem_append_right _ (List.mem_append_right _ (List.mem_append_right _ (List.mem_append_right _ (List.mem_append_right _ (List.mem_append_right _ (List.mem_append_right _ (List.mem_append_right _ (List.mem_append_right _ (List.mem_append_right _ (List.mem_append_right _ (List.mem_append_right _ (List.mem_append_right _ (List.mem_append_right _ (List.mem_append_left _ h))))))))))))))))))))))))))))))))))
theorem wr_24 : ∀ w ∈ wsL_law_r24, w ∈ wsL_law := fun _ h => List.mem_append_left _ (List.mem_append_left _ (List.mem_append_left _ (List.mem_append_left _ (List.mem_append_left _ (List.mem_append_left _ (List.mem_append_left _ (List.mem_append_left _ (List.mem_append_left _ (List.mem_append_left _ (List.mem_append_left _ (List.mem_append_left _ (List.mem_append_right _ (List.mem_append_right _ (List.mem_append_right _ (List.mem_append_right _ (List.mem_append_right _ (List.mem_append_right _ (List.mem_append_right _ (List.mem_append_right _ (List.mem_append_right _ (List.mem_append_right _ (List.mem_append_right _ (List.mem_append_right _ (List.mem_append_right _ (List.mem_append_right _ (List.mem_append_right _ (List.mem_append_right _ (List.mem_append_right _ (List.mem_append_right _ (List.mem_append_right _ (List.mem_append_right _ (List.mem_append_right _ (List.mem_append_right _ (List.mem_append_right _ (List.mem_append_left _ h)))))))))))))))))))))))))))))))))))
theorem wr_25 : ∀ w ∈ wsL_law_r25, w ∈ wsL_law := fun _ h => List.mem_append_left _ (List.mem_append_left _ (List.mem_append_left _ (List.mem_append_left _ (List.mem_append_left _ (List.mem_append_left _ (List.mem_append_left _ (List.mem_append_left _ (List.mem_append_left _ (List.mem_append_left _ (List.mem_append_left _ (List.mem_append_left _ (List.mem_append_right _ (List.mem_append_right _ (List.mem_append_right _ (List.mem_append_right _ (List.mem_append_right _ (List.mem_append_right _ (List.mem_append_right _ (List.mem_append_right _ (List.mem_append_right _ (List.mem_append_right _ (List.mem_append_right _ (List.mem_append_right _ (List.mem_append_right _ (List.mem_append_right _ (List.mem_append_right _ (List.mem_append_right _ (List.mem_append_right _ (List.mem_append_right _ (List.mem_append_right _ (List.mem_append_right _ (List.mem_append_right _ (List.mem_append_right _ (List.mem_append_right _ (List.mem_append_right _ (List.mem_append_left _ h))))))))))))))))))))))))))))))))))))
theorem wr_26 : ∀ w ∈ wsL_law_r26, w ∈ wsL_law := fun _ h => List.mem_append_left _ (List.mem_append_left _ (List.mem_append_left _ (List.mem_append_left _ (List.mem_append_left _ (List.mem_append_left _ (List.mem_append_left _ (List.mem_append_left _ (List.mem_append_left _ (List.mem_append_left _ (List.mem_append_left _ (List.mem_append_left _ (List.mem_append_right _ (List.mem_append_right _ (List.mem_append_right _ (List.mem_append_right _ (List.mem_append_right _ (List.mem_append_right _ (List.mem_append_right _ (List.mem_append_right _ (List.mem_append_right _ (List.mem_append_right _ (List.mem_append_right _ (List.mem_append_right _ (List.mem_append_right _ (List.mem_append_right _ (List.mem_append_right _ (List.mem_append_right _ (List.mem_append_right _ (List.mem_append_right _ (List.mem_append_right _ (List.mem_append_right _ (List.mem_append_right _ (List.mem_append_right _ (List.mem_append_right _ (List.mem_append_right _ (List.mem_append_right _ (List.mem_append_left _ h)))))))))))))))))))))))))))))))))))))
theorem wr_27 : ∀ w ∈ wsL_law_r27, w ∈ wsL_law := fun _ h => List.mem_append_left _ (List.mem_append_left _ (List.mem_append_left _ (List.mem_append_left _ (List.mem_append_left _ (List.mem_append_left _ (List.mem_append_left _ (List.mem_append_left _ (List.mem_append_left _ (List.mem_append_left _ (List.mem_append_left _ (List.mem_append_left _ (List.mem_append_right _ (List.mem_append_right _ (List.mem_append_right _ (List.mem_append_right _ (List.mem_append_right _ (List.mem_append_right _ (List.mem_append_right _ (List.mem_append_right _ (List.mem_append_right _ (List.mem_append_right _ (List.mem_append_right _ (List.mem_append_right _ (List.mem_append_right _ (List.mem_append_right _ (List.mem_append_right _ (List.mem_append_right _ (List.mem_append_right _ (List.mem_append_right _ (List.mem_append_right _ (List.mem_append_right _ (List.mem_append_right _ (List.mem_append_right _ (List.mem_append_right _ (List.mem_append_right _ (List.mem_append_right _ (List.mem_append_right _ (List.mem_append_left _ h))))))))))))))))))))))))))))))))))))))
theorem wr_28 : ∀ w ∈ wsL_law_r28, w ∈ wsL_law := fun _ h => List.mem_append_left _ (List.mem_append_left _ (List.mem_append_left _ (List.mem_append_left _ (List.mem_append_left _ (List.mem_append_left _ (List.mem_append_left _ (List.mem_append_left _ (List.mem_append_left _ (List.mem_append_left _ (List.mem_append_left _ (List.mem_append_left _ (List.mem_append_right _ (List.mem_append_right _ (List.mem_append_right _ (List.mem_append_right _ (List.mem_append_right _ (List.mem_append_right _ (List.mem_append_right _ (List.mem_append_right _ (List.mem_append_right _ (List.mem_append_right _ (List.mem_append_right _ (List.mem_append_right _ (List.mem_append_right _ (List.mem_append_right _ (List.mem_append_right _ (List.mem_append_right _ (List.mem_append_right _ (List.mem_append_right _ (List.mem_append_right _ (List.mem_append_right _ (List.mem_append_right _ (List.mem_append_right _ (List.mem_append_right _ (List.mem_append_right _ (List.mem_append_right _ (List.mem_append_right _ (List.mem_append_right _ (List.mem_append_left _ h)))))))))))))))))))))))))))))))))))))))
theorem wr_29 : ∀ w ∈ wsL_law_r29, w ∈ wsL_law := fun _ h => List.mem_append_left _ (List.mem_append_left _ (List.mem_append_left _ (List.mem_append_left _ (List.mem_append_left _ (List.mem_append_left _ (List.mem_append_left _ (List.mem_append_left _ (List.mem_append_left _ (List.mem_append_left _ (List.mem_append_left _ (List.mem_append_left _ (List.mem_append_right _ (List.mem_append_right _ (List.mem_append_right _ (List.mem_append_right _ (List.mem_append_right _ (List.mem_append_right _ (List.mem_append_right _ (List.mem_append_right _ (List.mem_append_right _ (List.mem_append_right _ (List.mem_append_right _ (List.mem_append_right _ (List.mem_append_right _ (List.mem_append_right _ (List.mem_append_right _ (List.mem_append_right _ (List.mem_append_right _ (List.mem_append_right _ (List.mem_append_right _ (List.mem_append_right _ (List.mem_append_right _ (List.mem_append_right _ (List.mem_append_right _ (List.mem_append_right _ (List.mem_append_right _ (List.mem_append_right _ (List.mem_append_right _ (List.mem_append_right _ (List.mem_append_left _ h))))))))))))))))))))))))))))))))))))))))
theorem wr_30 : ∀ w ∈ wsL_law_r30, w ∈ wsL_law := fun _ h => List.mem_append_left _ (List.mem_append_left _ (List.mem_append_left _ (List.mem_append_left _ (List.mem_append_left _ (List.mem_append_left _ (List.mem_append_left _ (List.mem_append_left _ (List.mem_append_left _ (List.mem_append_left _ (List.mem_append_left _ (List.mem_append_left _ (List.mem_append_right _ (List.mem_append_right _ (List.mem_append_right _ (List.mem_append_right _ (List.mem_append_right _ (List.mem_append_right _ (List.mem_append_right _ (List.mem_append_right _ (List.mem_append_right _ (List.mem_append_right _ (List.mem_append_right _ (List.mem_append_right _ (List.mem_append_right _ (List.mem_append_right _ (List.mem_append_right _ (List.mem_append_right _ (List.mem_append_right _ (List.mem_append_right _ (List.mem_append_right _ (List.mem_append_right _ (List.mem_append_right _ (List.mem_append_right _ (List.mem_append_right _ (List.mem_append_right _ (List.mem_append_right _ (List.mem_append_right _ (List.mem_append_right _ (List.mem_append_right _ (List.mem_append_right _ (List.mem_append_left _ h)))))))))))))))))))))))))))))))))))))))))
theorem wr_31 : ∀ w ∈ wsL_law_r31, w ∈ wsL_law := fun _ h => List.mem_append_left _ (List.mem_append_left _ (List.mem_append_left _ (List.mem_append_left _ (List.mem_append_left _ (List.mem_append_left _ (List.mem_append_left _ (List.mem_append_left _ (List.mem_append_left _ (List.mem_append_left _ (List.mem_append_left _ (List.mem_append_left _ (List.mem_append_right _ (List.mem_append_right _ (List.mem_append_right _ (List.mem_append_right _ (List.mem_append_right _ (List.mem_append_right _ (List.mem_append_right _ (List.mem_append_right _ (List.mem_append_right _ (List.mem_append_right _ (List.mem_append_right _ (List.mem_append_right _ (List.mem_append_right _ (List.mem_append_right _ (List.mem_append_right _ (List.mem_append_right _ (List.mem_append_right _ (List.mem_append_right _ (List.mem_append_right _ (List.mem_append_right _ (List.mem_append_right _ (List.mem_append_right _ (List.mem_append_right _ (List.mem_append_right _ (List.mem_append_right _ (List.mem_append_right _ (List.mem_append_right _ (List.mem_append_right _ (List.mem_append_right _ (List.mem_append_right _ (List.mem_append_left _ h))))))))))))))))))))))))))))))))))))))))))
theorem wr_32 : ∀ w ∈ wsL_law_r32, w ∈ wsL_law := fun _ h => List.mem_append_left _ (List.mem_append_left _ (List.mem_append_left _ (List.mem_append_left _ (List.mem_append_left _ (List.mem_append_left _ (List.mem_append_left _ (List.mem_append_left _ (List.mem_append_left _ (List.mem_append_left _ (List.mem_append_left _ (List.mem_append_left _ (List.mem_append_right _ (List.mem_append_right _ (List.mem_append_right _ (List.mem_append_right _ (List.mem_append_right _ (List.mem_append_right _ (List.mem_append_right _ (List.mem_append_right _ (List.mem_append_right _ (List.mem_append_right _ (List.mem_append_right _ (List.mem_append_right _ (List.mem_append_right _ (List.mem_append_right _ (List.mem_append_right _ (List.mem_append_right _ (List.mem_append_right _ (List.mem_append_right _ (List.mem_append_right _ (List.mem_append_right _ (List.mem_append_right _ (List.mem_append_right _ (List.mem_append_right _ (List.mem_append_right _ (List.mem_append_right _ (List.mem_append_right _ (List.mem_append_right _ (List.mem_append_right _ (List.mem_append_right _ (List.mem_append_right _ (List.mem_append_right _ (List.mem_append_left _ h)))))))))))))))))))))))))))))))))))))))))))
theorem wr_33 : ∀ w ∈ wsL_law_r33, w ∈ wsL_law := fun _ h => List.mem_append_left _ (List.mem_append_left _ (List.mem_append_left _ (List.mem_append_left _ (List.mem_append_left _ (List.mem_append_left _ (List.mem_append_left _ (List.mem_append_left _ (List.mem_append_left _ (List.mem_append_left _ (List.mem_append_left _ (List.mem_append_left _ (List.mem_append_right _ (List.mem_append_right _ (List.mem_append_right _ (List.mem_append_right _ (List.mem_append_right _ (List.mem_append_right _ (List.mem_append_right _ (List.mem_append_right _ (List.mem_append_right _ (List.mem_append_right _ (List.mem_append_right _ (List.mem_append_right _ (List.mem_append_right _ (List.mem_append_right _ (List.mem_append_right _ (List.mem_append_right _ (List.mem_append_right _ (List.mem_append_right _ (List.mem_append_right _ (List.mem_append_right _ (List.mem_append_right _ (List.mem_append_right _ (List.mem_append_right _ (List.mem_append_right _ (List.mem_append_right _ (List.mem_append_right _ (List.mem_append_right _ (List.mem_append_right _ (List.mem_append_right _ (List.mem_append_right _ (List.mem_append_right _ (List.mem_append_right _ (List.mem_append_left _ h))))))))))))))))))))))))))))))))))))))))))))
theorem wr_34 : ∀ w ∈ wsL_law_r34, w ∈ wsL_law := fun _ h => List.mem_append_left _ (List.mem_append_left _ (List.mem_append_left _ (List.mem_append_left _ (List.mem_append_left _ (List.mem_append_left _ (List.mem_append_left _ (List.mem_append_left _ (List.mem_append_left _ (List.mem_append_left _ (List.mem_append_left _ (List.mem_append_left _ (List.mem_append_right _ (List.mem_append_right _ (List.mem_append_right _ (List.mem_append_right _ (List.mem_append_right _ (List.mem_append_right _ (List.mem_append_right _ (List.mem_append_right _ (List.mem_append_right _ (List.mem_append_right _ (List.mem_append_right _ (List.mem_append_right _ (List.mem_append_right _ (List.mem_append_right _ (List.mem_append_right _ (List.mem_append_right _ (List.mem_append_right _ (List.mem_append_right _ (List.mem_append_right _ (List.mem_append_right _ (List.mem_append_right _ (List.mem_append_right _ (List.mem_append_right _ (List.mem_append_right _ (List.mem_append_right _ (List.mem_append_right _ (List.mem_append_right _ (List.mem_append_right _ (List.mem_append_right _ (List.mem_append_right _ (List.mem_append_right _ (List.mem_append_right _ (List.mem_append_right _ (List.mem_append_left _ h)))))))))))))))))))))))))))))))))))))))))))))
theorem wr_35 : ∀ w ∈ wsL_law_r35, w ∈ wsL_law := fun _ h => List.mem_append_left _ (List.mem_append_left _ (List.mem_append_left _ (List.mem_append_left _ (List.mem_append_left _ (List.mem_append_left _ (List.mem_append_left _ (List.mem_append_left _ (List.mem_append_left _ (List.mem_append_left _ (List.mem_append_left _ (List.mem_append_left _ (List.mem_append_right _ (List.mem_append_right _ (List.mem_append_right _ (List.mem_append_right _ (List.mem_append_right _ (List.mem_append_right _ (List.mem_append_right _ (List.mem_append_right _ (List.mem_append_right _ (List.mem_append_right _ (List.mem_append_right _ (List.mem_append_right _ (List.mem_append_right _ (List.mem_append_right _ (List.mem_append_right _ (List.mem_append_right _ (List.mem_append_right _ (List.mem_append_right _ (List.mem_append_right _ (List.mem_append_right _ (List.mem_append_right _ (List.mem_append_right _ (List.mem_append_right _ (List.mem_append_right _ (List.mem_append_right _ (List.mem_append_right _ (List.mem_append_right _ (List.mem_append_right _ (List.mem_append_right _ (List.mem_append_right _ (List.mem_append_right _ (List.mem_append_right _ (List.mem_append_right _ (List.mem_append_right _ (List.mem_append_left _ h))))))))))))))))))))))))))))))))))))))))))))))
theorem wr_36 : ∀ w ∈ wsL_law_r36, w ∈ wsL_law := fun _ h => List.mem_append_left _ (List.mem_append_left _ (List.mem_append_left _ (List.mem_append_left _ (List.mem_append_left _ (List.mem_append_left _ (List.mem_append_left _ (List.mem_append_left _ (List.mem_append_left _ (List.mem_append_left _ (List.mem_append_left _ (List.mem_append_left _ (List.mem_append_right _ (List.mem_append_right _ (List.mem_append_right _ (List.mem_append_right _ (List.mem_append_right _ (List.mem_append_right _ (List.mem_append_right _ (List.mem_append_right _ (List.mem_append_right _ (List.mem_append_right _ (List.mem_append_right _ (List.mem_append_right _ (List.mem_append_right _ (List.mem_append_right _ (List.mem_append_right _ (List.mem_append_right _ (List.mem_append_right _ (List.mem_append_right _ (List.mem_append_right _ (List.mem_append_right _ (List.mem_append_right _ (List.mem_append_right _ (List.mem_append_right _ (List.mem_append_right _ (List.mem_append_right _ (List.mem_append_right _ (List.mem_append_right _ (List.mem_append_right _ (List.mem_append_right _ (List.mem_append_right _ (List.mem_append_right _ (List.mem_append_right _ (List.mem_append_right _ (List.mem_append_right _ (List.mem_append_right _ (List.mem_append_left _ h)))))))))))))))))))))))))))))))))))))))))))))))
theorem wr_37 : ∀ w ∈ wsL_law_r37, w ∈ wsL_law := fun _ h => List.mem_append_left _ (List.mem_append_left _ (List.mem_append_left _ (List.mem_append_left _ (List.mem_append_left _ (List.mem_append_left _ (List.mem_append_left _ (List.mem_append_left _ (List.mem_append_left _ (List.mem_append_left _ (List.mem_append_left _ (List.mem_append_left _ (List.mem_append_right _ (List.mem_append_right _ (List.mem_append_right _ (List.mem_append_right _ (List.mem_append_right _ (List.mem_append_right _ (List.mem_append_right _ (List.mem_append_right _ (List.mem_append_right _ (List.mem_append_right _ (List.mem_append_right _ (List.mem_append_right _ (List.mem_append_right _ (List.mem_append_right _ (List.mem_append_right _ (List.mem_append_right _ (List.mem_append_right _ (List.mem_append_right _ (List.mem_append_right _ (List.mem_append_right _ (List.mem_append_right _ (List.mem_append_right _ (List.mem_append_right _ (List.mem_append_right _ (List.mem_append_right _ (List.mem_append_right _ (List.mem_append_right _ (List.mem_append_right _ (List.mem_append_right _ (List.mem_append_right _ (List.mem_append_right _ (List.mem_append_right _ (List.mem_append_right _ (List.mem_append_right _ (List.mem_append_right _ (List.mem_append_right _ (List.mem_append_left _ h))))))))))))))))))))))))))))))))))))))))))))))))
theorem wr_38 : ∀ w ∈ wsL_law_r38, w ∈ wsL_law := fun _ h => List.mem_append_left _ (List.mem_append_left _ (List.mem_append_left _ (List.mem_append_left _ (List.mem_append_left _ (List.mem_append_left _ (List.mem_append_left _ (List.mem_append_left _ (List.mem_append_left _ (List.mem_append_left _ (List.mem_append_left _ (List.mem_append_left _ (List.mem_append_right _ (List.mem_append_right _ (List.mem_append_right _ (List.mem_append_right _ (List.mem_append_right _ (List.mem_append_right _ (List.mem_append_right _ (List.mem_append_right _ (List.mem_append_right _ (List.mem_append_right _ (List.mem_append_right _ (List.mem_append_right _ (List.mem_append_right _ (List.mem_append_right _ (List.mem_append_right _ (List.mem_append_right _ (List.mem_append_right _ (List.mem_append_right _ (List.mem_append_right _ (List.mem_append_right _ (List.mem_append_right _ (List.mem_append_right _ (List.mem_append_right _ (List.mem_append_right _ (List.mem_append_right _ (List.mem_append_right _ (List.mem_append_right _ (List.mem_append_right _ (List.mem_append_right _ (List.mem_append_right _ (List.mem_append_right _ (List.mem_append_right _ (List.mem_append_right _ (List.mem_append_right _ (List.mem_append_right _ (List.mem_append_right _ (List.mem_append_right _ (List.mem_append_left _ h)))))))))))))))))))))))))))))))))))))))))))))))))
theorem wr_39 : ∀ w ∈ wsL_law_r39, w ∈ wsL_law := fun _ h => List.mem_append_left _ (List.mem_append_left _ (List.mem_append_left _ (List.mem_append_left _ (List.mem_append_left _ (List.mem_append_left _ (List.mem_append_left _ (List.mem_append_left _ (List.mem_append_left _ (List.mem_append_left _ (List.mem_append_left _ (List.mem_append_left _ (List.mem_append_right _ (List.mem_append_right _ (List.mem_append_right _ (List.mem_append_right _ (List.mem_append_right _ (List.mem_append_right _ (List.mem_append_right _ (List.mem_append_right _ (List.mem_append_right _ (List.mem_append_right _ (List.mem_append_right _ (List.mem_append_right _ (List.mem_append_right _ (List.mem_append_right _ (List.mem_append_right _ (List.mem_append_right _ (List.mem_append_right _ (List.mem_append_right _ (List.mem_append_right _ (List.mem_append_right _ (List.mem_append_right _ (List.mem_append_right _ (List.mem_append_right _ (List.mem_append_right _ (List.mem_append_right _ (List.mem_append_right _ (List.mem_append_right _ (List.mem_append_right _ (List.mem_append_right _ (List.mem_append_right _ (List.mem_append_right _ (List.mem_append_right _ (List.mem_append_right _ (List.mem_append_right _ (List.mem_append_right _ (List.mem_append_right _ (List.mem_append_right _ (List.mem_append_right _ (List.mem_append_left _ h))))))))))))))))))))))))))))))))))))))))))))))))))
theorem wr_40 : ∀ w ∈ wsL_law_r40, w ∈ wsL_law := fun _ h => List.mem_append_left _ (List.mem_append_left _ (List.mem_append_left _ (List.mem_append_left _ (List.mem_append_left _ (List.mem_append_left _ (List.mem_append_left _ (List.mem_append_left _ (List.mem_append_left _ (List.mem_append_left _ (List.mem_append_left _ (List.mem_append_left _ (List.mem_append_right _ (List.mem_append_right _ (List.mem_append_right _ (List.mem_append_right _ (List.mem_append_right _ (List.mem_append_right _ (List.mem_append_right _ (List.mem_append_right _ (List.mem_append_right _ (List.mem_append_right _ (List.mem_append_right _ (List.mem_append_right _ (List.mem_append_right _ (List.mem_append_right _ (List.mem_append_right _ (List.mem_append_right _ (List.mem_append_right _ (List.mem_append_right _ (List.mem_append_right _ (List.mem_append_right _ (List.mem_append_right _ (List.mem_append_right _ (List.mem_append_right _ (List.mem_append_right _ (List.mem_append_right _ (List.mem_append_right _ (List.mem_append_right _ (List.mem_append_right _ (List.mem_append_right _ (List.mem_append_right _ (List.mem_append_right _ (List.mem_append_right _ (List.mem_append_right _ (List.mem_append_right _ (List.mem_append_right _ (List.mem_append_right _ (List.mem_append_right _ (List.mem_append_right _ (List.mem_append_right _ (List.mem_append_left _ h)))))))))))))))))))))))))))))))))))))))))))))))))))
theorem wr_41 : ∀ w ∈ wsL_law_r41, w ∈ wsL_law := fun _ h => List.mem_append_left _ (List.mem_append_left _ (List.mem_append_left _ (List.mem_append_left _ (List.mem_append_left _ (List.mem_append_left _ (List.mem_append_left _ (List.mem_append_left _ (List.mem_append_left _ (List.mem_append_left _ (List.mem_append_left _ (List.mem_append_left _ (List.mem_append_right _ (List.mem_append_right _ (List.mem_append_right _ (List.mem_append_right _ (List.mem_append_right _ (List.mem_append_right _ (List.mem_append_right _ (List.mem_append_right _ (List.mem_append_right _ (List.mem_append_right _ (List.mem_append_right _ (List.mem_append_right _ (List.mem_append_right _ (List.mem_append_right _ (List.mem_append_right _ (List.mem_append_right _ (List.mem_append_right _ (List.mem_append_right _ (List.mem_append_right _ (List.mem_append_right _ (List.mem_append_right _ (List.mem_append_right _ (List.mem_append_right _ (List.mem_append_right _ (List.mem_append_right _ (List.mem_append_right _ (List.mem_append_right _ (List.mem_append_right _ (List.mem_append_right _ (List.mem_append_right _ (List.mem_append_right _ (List.mem_append_right _ (List.mem_append_right _ (List.mem_append_right _ (List.mem_append_right _ (List.mem_append_right _ (List.mem_append_right _ (List.mem_append_right _ (List.mem_append_right _ (List.mem_append_right _ (List.mem_append_left _ h))))))))))))))))))))))))))))))))))))))))))))))))))))
theorem wr_42 : ∀ w ∈ wsL_law_r42, w ∈ wsL_law := fun _ h => List.mem_append_left _ (List.mem_append_left _ (List.mem_append_left _ (List.mem_append_left _ (List.mem_append_left _ (List.mem_append_left _ (List.mem_append_left _ (List.mem_append_left _ (List.mem_append_left _ (List.mem_append_left _ (List.mem_append_left _ (List.mem_append_left _ (List.mem_append_right _ (List.mem_append_right _ (List.mem_append_right _ (List.mem_append_right _ (List.mem_append_right _ (List.mem_append_right _ (List.mem_append_right _ (List.mem_append_right _ (List.mem_append_right _ (List.mem_append_right _ (List.mem_append_right _ (List.mem_append_right _ (List.mem_append_right _ (List.mem_append_right _ (List.mem_append_right _ (List.mem_append_right _ (List.mem_append_right _ (List.mem_append_right _ (List.mem_append_right _ (List.mem_append_right _ (List.mem_append_right _ (List.mem_append_right _ (List.mem_append_right _ (List.mem_append_right _ (List.mem_append_right _ (List.mem_append_right _ (List.mem_append_right _ (List.mem_append_right _ (List.mem_append_right _ (List.mem_append_right _ (List.mem_append_right _ (List.mem_append_right _ (List.mem_append_right _ (List.mem_append_right _ (List.mem_append_right _ (List.mem_append_right _ (List.mem_append_right _ (List.mem_append_right _ (List.mem_append_right _ (List.mem_append_right _ (List.mem_append_right _ (List.mem_append_left _ h)))))))))))))))))))))))))))))))))))))))))))))))))))))
theorem wr_43 : ∀ w ∈ wsL_law_r43, w ∈ wsL_law := fun _ h => List.mem_append_left _ (List.mem_append_left _ (List.mem_append_left _ (List.mem_append_left _ (List.mem_append_left _ (List.mem_append_left _ (List.mem_append_left _ (List.mem_append_left _ (List.mem_append_left _ (List.mem_append_left _ (List.mem_append_left _ (List.mem_append_left _ (List.mem_append_right _ (List.mem_append_right _ (List.mem_append_right _ (List.mem_append_right _ (List.mem_append_right _ (List.mem_append_right _ (List.mem_append_right _ (List.mem_append_right _ (List.mem_append_right _ (List.mem_append_right _ (List.mem_append_right _ (List.mem_append_right _ (List.mem_append_right _ (List.mem_append_right _ (List.mem_append_right _ (List.mem_append_right _ (List.mem_append_right _ (List.mem_append_right _ (List.mem_append_right _ (List.mem_append_right _ (List.mem_append_right _ (List.mem_append_right _ (List.mem_append_right _ (List.mem_append_right _ (List.mem_append_right _ (List.mem_append_right _ (List.mem_append_right _ (List.mem_append_right _ (List.mem_append_right _ (List.mem_append_right _ (List.mem_append_right _ (List.mem_append_right _ (List.mem_append_right _ (List.mem_append_right _ (List.mem_append_right _ (List.mem_append_right _ (List.mem_append_right _ (List.mem_append_right _ (List.mem_append_right _ (List.mem_append_right _ (List.mem_append_right _ (List.mem_append_right _ (List.mem_append_left _ h))))))))))))))))))))))))))))))))))))))))))))))))))))))
theorem wr_44 : ∀ w ∈ wsL_law_r44, w ∈ wsL_law := fun _ h => List.mem_append_left _ (List.mem_append_left _ (List.mem_append_left _ (List.mem_append_left _ (List.mem_append_left _ (List.mem_append_left _ (List.mem_append_left _ (List.mem_append_left _ (List.mem_append_left _ (List.mem_append_left _ (List.mem_append_left _ (List.mem_append_left _ (List.mem_append_right _ (List.mem_append_right _ (List.mem_append_right _ (List.mem_append_right _ (List.mem_append_right _ (List.mem_append_right _ (List.mem_append_right _ (List.mem_append_right _ (List.mem_append_right _ (List.mem_append_right _ (List.mem_append_right _ (List.mem_append_right _ (List.mem_append_right _ (List.mem_append_right _ (List.mem_append_right _ (List.mem_append_right _ (List.mem_append_right _ (List.mem_append_right _ (List.mem_append_right _ (List.mem_append_right _ (List.mem_append_right _ (List.mem_append_right _ (List.mem_append_right _ (List.mem_append_right _ (List.mem_append_right _ (List.mem_append_right _ (List.mem_append_right _ (List.mem_append_right _ (List.mem_append_right _ (List.mem_append_right _ (List.mem_append_right _ (List.mem_append_right _ (List.mem_append_right _ (List.mem_append_right _ (List.mem_append_right _ (List.mem_append_right _ (List.mem_append_right _ (List.mem_append_right _ (List.mem_append_right _ (List.mem_append_right _ (List.mem_append_right _ (List.mem_append_right _ (List.mem_append_right _ (List.mem_append_left _ h)))))))))))))))))))))))))))))))))))))))))))))))))))))))
theorem wr_45 : ∀ w ∈ wsL_law_r45, w ∈ wsL_law := fun _ h => List.mem_append_left _ (List.mem_append_left _ (List.mem_append_left _ (List.mem_append_left _ (List.mem_append_left _ (List.mem_append_left _ (List.mem_append_left _ (List.mem_append_left _ (List.mem_append_left _ (List.mem_append_left _ (List.mem_append_left _ (List.mem_append_left _ (List.mem_append_right _ (List.mem_append_right _ (List.mem_append_right _ (List.mem_append_right _ (List.mem_append_right _ (List.mem_append_right _ (List.mem_append_right _ (List.mem_append_right _ (List.mem_append_right _ (List.mem_append_right _ (List.mem_append_right _ (List.mem_append_right _ (List.mem_append_right _ (List.mem_append_right _ (List.mem_append_right _ (List.mem_append_right _ (List.mem_append_right _ (List.mem_append_right _ (List.mem_append_right _ (List.mem_append_right _ (List.mem_append_right _ (List.mem_append_right _ (List.mem_append_right _ (List.mem_append_right _ (List.mem_append_right _ (List.mem_append_right _ (List.mem_append_right _ (List.mem_append_right _ (List.mem_append_right _ (List.mem_append_right _ (List.mem_append_right _ (List.mem_append_right _ (List.mem_append_right _ (List.mem_append_right _ (List.mem_append_right _ (List.mem_append_right _ (List.mem_append_right _ (List.mem_append_right _ (List.mem_append_right _ (List.mem_append_right _ (List.mem_append_right _ (List.mem_append_right _ (List.mem_append_right _ (List.mem_append_right _ (List.mem_append_left _ h))))))))))))))))))))))))))))))))))))))))))))))))))))))))
theorem wr_46 : ∀ w ∈ wsL_law_r46, w ∈ wsL_law := fun _ h => List.mem_append_left _ (List.mem_append_left _ (List.mem_append_left _ (List.mem_append_left _ (List.mem_append_left _ (List.mem_append_left _ (List.mem_append_left _ (List.mem_append_left _ (List.mem_append_left _ (List.mem_append_left _ (List.mem_append_left _ (List.mem_append_left _ (List.mem_append_right _ (List.mem_append_right _ (List.mem_append_right _ (List.mem_append_right _ (List.mem_append_right _ (List.mem_append_right _ (List.mem_append_right _ (List.mem_append_right _ (List.mem_append_right _ (List.mem_append_right _ (List.mem_append_right _ (List.mem_append_right _ (List.mem_append_right _ (List.mem_append_right _ (List.mem_append_right _ (List.mem_append_right _ (List.mem_append_right _ (List.mem_append_right _ (List.mem_append_right _ (List.mem_append_right _ (List.mem_append_right _ (List.mem_append_right _ (List.mem_append_right _ (List.mem_append_right _ (List.mem_append_right _ (List.mem_append_right _ (List.mem_append_right _ (List.mem_append_right _ (List.mem_append_right _ (List.mem_append_right _ (List.mem_append_right _ (List.mem_append_right _ (List.mem_append_right _ (List.mem_append_right _ (List.mem_append_right _ (List.mem_append_right _ (List.mem_append_right _ (List.mem_append_right _ (List.mem_append_right _ (List.mem_append_right _ (List.mem_append_right _ (List.mem_append_right _ (List.mem_append_right _ (List.mem_append_right _ (List.mem_append_right _ (List.mem_append_left _ h)))))))))))))))))))))))))))))))))))))))))))))))))))))))))
theorem wr_47 : ∀ w ∈ wsL_law_r47, w ∈ wsL_law := fun _ h => List.mem_append_left _ (List.mem_append_left _ (List.mem_append_left _ (List.mem_append_left _ (List.mem_append_left _ (List.mem_append_left _ (List.mem_append_left _ (List.mem_append_left _ (List.mem_append_left _ (List.mem_append_left _ (List.mem_append_left _ (List.mem_append_left _ (List.mem_append_right _ (List.mem_append_right _ (List.mem_append_right _ (List.mem_append_right _ (List.mem_append_right _ (List.mem_append_right _ (List.mem_append_right _ (List.mem_append_right _ (List.mem_append_right _ (List.mem_append_right _ (List.mem_append_right _ (List.mem_append_right _ (List.mem_append_right _ (List.mem_append_right _ (List.mem_append_right _ (List.mem_append_right _ (List.mem_append_right _ (List.mem_append_right _ (List.mem_append_right _ (List.mem_append_right _ (List.mem_append_right _ (List.mem_append_right _ (List.mem_append_right _ (List.mem_append_right _ (List.mem_append_right _ (List.mem_append_right _ (List.mem_append_right _ (List.mem_append_right _ (List.mem_append_right _ (List.mem_append_right _ (List.mem_append_right _ (List.mem_append_right _ (List.mem_append_right _ (List.mem_append_right _ (List.mem_append_right _ (List.mem_append_right _ (List.mem_append_right _ (List.mem_append_right _ (List.mem_append_right _ (List.mem_append_right _ (List.mem_append_right _ (List.mem_append_right _ (List.mem_append_right _ (List.mem_append_right _ (List.mem_append_right _ (List.mem_append_right _ (List.mem_append_left _ h))))))))))))))))))))))))))))))))))))))))))))))))))))))))))
theorem wr_48 : ∀ w ∈ wsL_law_r48, w ∈ wsL_law := fun _ h => List.mem_append_left _ (List.mem_append_left _ (List.mem_append_left _ (List.mem_append_left _ (List.mem_append_left _ (List.mem_append_left _ (List.mem_append_left _ (List.mem_append_left _ (List.mem_append_left _ (List.mem_append_left _ (List.mem_append_left _ (List.mem_append_left _ (List.mem_append_right _ (List.mem_append_right _ (List.mem_append_right _ (List.mem_append_right _ (List.mem_append_right _ (List.mem_append_right _ (List.mem_append_right _ (List.mem_append_right _ (List.mem_append_right _ (List.mem_append_right _ (List.mem_append_right _ (List.mem_append_right _ (List.mem_append_right _ (List.mem_append_right _ (List.mem_append_right _ (List.mem_append_right _ (List.mem_append_right _ (List.mem_append_right _ (List.mem_append_right _ (List.mem_append_right _ (List.mem_append_right _ (List.mem_append_right _ (List.mem_append_right _ (List.mem_append_right _ (List.mem_append_right _ (List.mem_append_right _ (List.mem_append_right _ (List.mem_append_right _ (List.mem_append_right _ (List.mem_append_right _ (List.mem_append_right _ (List.mem_append_right _ (List.mem_append_right _ (List.mem_append_right _ (List.mem_append_right _ (List.mem_append_right _ (List.mem_append_right _ (List.mem_append_right _ (List.mem_append_right _ (List.mem_append_right _ (List.mem_append_right _ (List.mem_append_right _ (List.mem_append_right _ (List.mem_append_right _ (List.mem_append_right _ (List.mem_append_right _ (List.mem_append_right _ (List.mem_append_left _ h)))))))))))))))))))))))))))))))))))))))))))))))))))))))))))
theorem wr_49 : ∀ w ∈ wsL_law_r49, w ∈ wsL_law := fun _ h => List.mem_append_left _ (List.mem_append_left _ (List.mem_append_left _ (List.mem_append_left _ (List.mem_append_left _ (List.mem_append_left _ (List.mem_append_left _ (List.mem_append_left _ (List.mem_append_left _ (List.mem_append_left _ (List.mem_append_left _ (List.mem_append_left _ (List.mem_append_right _ (List.mem_append_right _ (List.mem_append_right _ (List.mem_append_right _ (List.mem_append_right _ (List.mem_append_right _ (List.mem_append_right _ (List.mem_append_right _ (List.mem_append_right _ (List.mem_append_right _ (List.mem_append_right _ (List.mem_append_right _ (List.mem_append_right _ (List.mem_append_right _ (List.mem_append_right _ (List.mem_append_right _ (List.mem_append_right _ (List.mem_append_right _ (List.mem_append_right _ (List.mem_append_right _ (List.mem_append_right _ (List.mem_append_right _ (List.mem_append_right _ (List.mem_append_right _ (List.mem_append_right _ (List.mem_append_right _ (List.mem_append_right _ (List.mem_append_right _ (List.mem_append_right _ (List.mem_append_right _ (List.mem_append_right _ (List.mem_append_right _ (List.mem_append_right _ (List.mem_append_right _ (List.mem_append_right _ (List.mem_append_right _ (List.mem_append_right _ (List.mem_append_right _ (List.mem_append_right _ (List.mem_append_right _ (List.mem_append_right _ (List.mem_append_right _ (List.mem_append_right _ (List.mem_append_right _ (List.mem_append_right _ (List.mem_append_right _ (List.mem_append_right _ (List.mem_append_right _ (List.mem_append_left _ h))))))))))))))))))))))))))))))))))))))))))))))))))))))))))))
theorem wr_50 : ∀ w ∈ wsL_law_r50, w ∈ wsL_law := fun _ h => List.mem_append_left _ (List.mem_append_left _ (List.mem_append_left _ (List.mem_append_left _ (List.mem_append_left _ (List.mem_append_left _ (List.mem_append_left _ (List.mem_append_left _ (List.mem_append_left _ (List.mem_append_left _ (List.mem_append_left _ (List.mem_append_left _ (List.mem_append_right _ (List.mem_append_right _ (List.mem_append_right _ (List.mem_append_right _ (List.mem_append_right _ (List.mem_append_right _ (List.mem_append_right _ (List.mem_append_right _ (List.mem_append_right _ (List.mem_append_right _ (List.mem_append_right _ (List.mem_append_right _ (List.mem_append_right _ (List.mem_append_right _ (List.mem_append_right _ (List.mem_append_right _ (List.mem_append_right _ (List.mem_append_right _ (List.mem_append_right _ (List.mem_append_right _ (List.mem_append_right _ (List.mem_append_right _ (List.mem_append_right _ (List.mem_append_right _ (List.mem_append_right _ (List.mem_append_right _ (List.mem_append_right _ (List.mem_append_right _ (List.mem_append_right _ (List.mem_append_right _ (List.mem_append_right _ (List.mem_append_right _ (List.mem_append_right _ (List.mem_append_right _ (List.mem_append_right _ (List.mem_append_right _ (List.mem_append_right _ (List.mem_append_right _ (List.mem_append_right _ (List.mem_append_right _ (List.mem_append_right _ (List.mem_append_right _ (List.mem_append_right _ (List.mem_append_right _ (List.mem_append_right _ (List.mem_append_right _ (List.mem_append_right _ (List.mem_append_right _ (List.mem_append_right _ (List.mem_append_left _ h)))))))))))))))))))))))))))))))))))))))))))))))))))))))))))))
theorem wr_51 : ∀ w ∈ wsL_law_r51, w ∈ wsL_law := fun _ h => List.mem_append_left _ (List.mem_append_left _ (List.mem_append_left _ (List.mem_append_left _ (List.mem_append_left _ (List.mem_append_left _ (List.mem_append_left _ (List.mem_append_left _ (List.mem_append_left _ (List.mem_append_left _ (List.mem_append_left _ (List.mem_append_left _ (List.mem_append_right _ (List.mem_append_right _ (List.mem_append_right _ (List.mem_append_right _ (List.mem_append_right _ (List.mem_append_right _ (List.mem_append_right _ (List.mem_append_right _ (List.mem_append_right _ (List.mem_append_right _ (List.mem_append_right _ (List.mem_append_right _ (List.mem_append_right _ (List.mem_append_right _ (List.mem_append_right _ (List.mem_append_right _ (List.mem_append_right _ (List.mem_append_right _ (List.mem_append_right _ (List.mem_append_right _ (List.mem_append_right _ (List.mem_append_right _ (List.mem_append_right _ (List.mem_append_right _ (List.mem_append_right _ (List.mem_append_right _ (List.mem_append_right _ (List.mem_append_right _ (List.mem_append_right _ (List.mem_append_right _ (List.mem_append_right _ (List.mem_append_right _ (List.mem_append_right _ (List.mem_append_right _ (List.mem_append_right _ (List.mem_append_right _ (List.mem_append_right _ (List.mem_append_right _ (List.mem_append_right _ (List.mem_append_right _ (List.mem_append_right _ (List.mem_append_right _ (List.mem_append_right _ (List.mem_append_right _ (List.mem_append_right _ (List.mem_append_right _ (List.mem_append_right _ (List.mem_append_right _ (List.mem_append_right _ (List.mem_append_right _ (List.mem_append_left _ h))))))))))))))))))))))))))))))))))))))))))))))))))))))))))))))
theorem wr_52 : ∀ w ∈ wsL_law_r52, w ∈ wsL_law := fun _ h => List.mem_append_left _ (List.mem_append_left _ (List.mem_append_left _ (List.mem_append_left _ (List.mem_append_left _ (List.mem_append_left _ (List.mem_append_left _ (List.mem_append_left _ (List.mem_append_left _ (List.mem_append_left _ (List.mem_append_left _ (List.mem_append_left _ (List.mem_append_right _ (List.mem_append_right _ (List.mem_append_right _ (List.mem_append_right _ (List.mem_append_right _ (List.mem_append_right _ (List.mem_append_right _ (List.mem_append_right _ (List.mem_append_right _ (List.mem_append_right _ (List.mem_append_right _ (List.mem_append_right _ (List.mem_append_right _ (List.mem_append_right _ (List.mem_append_right _ (List.mem_append_right _ (List.mem_append_right _ (List.mem_append_right _ (List.mem_append_right _ (List.mem_append_right _ (List.mem_append_right _ (List.mem_append_right _ (List.mem_append_right _ (List.mem_append_right _ (List.mem_append_right _ (List.mem_append_right _ (List.mem_append_right _ (List.mem_append_right _ (List.mem_append_right _ (List.mem_append_right _ (List.mem_append_right _ (List.mem_append_right _ (List.mem_append_right _ (List.mem_append_right _ (List.mem_append_right _ (List.mem_append_right _ (List.mem_append_right _ (List.mem_append_right _ (List.mem_append_right _ (List.mem_append_right _ (List.mem_append_right _ (List.mem_append_right _ (List.mem_append_right _ (List.mem_append_right _ (List.mem_append_right _ (List.mem_append_right _ (List.mem_append_right _ (List.mem_append_right _ (List.mem_append_right _ (List.mem_append_right _ (List.mem_append_right _ (List.mem_append_left _ h)))))))))))))))))))))))))))))))))))))))))))))))))))))))))))))))
theorem wr_53 : ∀ w ∈ wsL_law_r53, w ∈ wsL_law := fun _ h => List.mem_append_left _ (List.mem_append_left _ (List.mem_append_left _ (List.mem_append_left _ (List.mem_append_left _ (List.mem_append_left _ (List.mem_append_left _ (List.mem_append_left _ (List.mem_append_left _ (List.mem_append_left _ (List.mem_append_left _ (List.mem_append_left _ (List.mem_append_right _ (List.mem_append_right _ (List.mem_append_right _ (List.mem_append_right _ (List.mem_append_right _ (List.mem_append_right _ (List.mem_append_right _ (List.mem_append_right _ (List.mem_append_right _ (List.mem_append_right _ (List.mem_append_right _ (List.mem_append_right _ (List.mem_append_right _ (List.mem_append_right _ (List.mem_append_right _ (List.mem_append_right _ (List.mem_append_right _ (List.mem_append_right _ (List.mem_append_right _ (List.mem_append_right _ (List.mem_append_right _ (List.mem_append_right _ (List.mem_append_right _ (List.mem_append_right _ (List.mem_append_right _ (List.mem_append_right _ (List.mem_append_right _ (List.mem_append_right _ (List.mem_append_right _ (List.mem_append_right _ (List.mem_append_right _ (List.mem_append_right _ (List.mem_append_right _ (List.mem_append_right _ (List.mem_append_right _ (List.mem_append_right _ (List.mem_append_right _ (List.mem_append_right _ (List.mem_append_right _ (List.mem_append_right _ (List.mem_append_right _ (List.mem_append_right _ (List.mem_append_right _ (List.mem_append_right _ (List.mem_append_right _ (List.mem_append_right _ (List.mem_append_right _ (List.mem_append_right _ (List.mem_append_right _ (List.mem_append_right _ (List.mem_append_right _ (List.mem_append_right _ (List.mem_append_left _ h))))))))))))))))))))))))))))))))))))))))))))))))))))))))))))))))
theorem wr_54 : ∀ w ∈ wsL_law_r54, w ∈ wsL_law := fun _ h => List.mem_append_left _ (List.mem_append_left _ (List.mem_append_left _ (List.mem_append_left _ (List.mem_append_left _ (List.mem_append_left _ (List.mem_append_left _ (List.mem_append_left _ (List.mem_append_left _ (List.mem_append_left _ (List.mem_append_left _ (List.mem_append_left _ (List.mem_append_right _ (List.mem_append_right _ (List.mem_append_right _ (List.mem_append_right _ (List.mem_append_right _ (List.mem_append_right _ (List.mem_append_right _ (List.mem_append_right _ (List.mem_append_right _ (List.mem_append_right _ (List.mem_append_right _ (List.mem_append_right _ (List.mem_append_right _ (List.mem_append_right _ (List.mem_append_right _ (List.mem_append_right _ (List.mem_append_right _ (List.mem_append_right _ (List.mem_append_right _ (List.mem_append_right _ (List.mem_append_right _ (List.mem_append_right _ (List.mem_append_right _ (List.mem_append_right _ (List.mem_append_right _ (List.mem_append_right _ (List.mem_append_right _ (List.mem_append_right _ (List.mem_append_right _ (List.mem_append_right _ (List.mem_append_right _ (List.mem_append_right _ (List.mem_append_right _ (List.mem_append_right _ (List.mem_append_right _ (List.mem_append_right _ (List.mem_append_right _ (List.mem_append_right _ (List.mem_append_right _ (List.mem_append_right _ (List.mem_append_right _ (List.mem_append_right _ (List.mem_append_right _ (List.mem_append_right _ (List.mem_append_right _ (List.mem_append_right _ (List.mem_append_right _ (List.mem_append_right _ (List.mem_append_right _ (List.mem_append_right _ (List.mem_append_right _ (List.mem_append_right _ (List.mem_append_right _ (List.mem_append_left _ h)))))))))))))))))))))))))))))))))))))))))))))))))))))))))))))))))
theorem wr_55 : ∀ w ∈ wsL_law_r55, w ∈ wsL_law := fun _ h => List.mem_append_left _ (List.mem_append_left _ (List.mem_append_left _ (List.mem_append_left _ (List.mem_append_left _ (List.mem_append_left _ (List.mem_append_left _ (List.mem_append_left _ (List.mem_append_left _ (List.mem_append_left _ (List.mem_append_left _ (List.mem_append_left _ (List.mem_append_right _ (List.mem_append_right _ (List.mem_append_right _ (List.mem_append_right _ (List.mem_append_right _ (List.mem_append_right _ (List.mem_append_right _ (List.mem_append_right _ (List.mem_append_right _ (List.mem_append_right _ (List.mem_append_right _ (List.mem_append_right _ (List.mem_append_right _ (List.mem_append_right _ (List.mem_append_right _ (List.mem_append_right _ (List.mem_append_right _ (List.mem_append_right _ (List.mem_append_right _ (List.mem_append_right _ (List.mem_append_right _ (List.mem_append_right _ (List.mem_append_right _ (List.mem_append_right _ (List.mem_append_right _ (List.mem_append_right _ (List.mem_append_right _ (List.mem_append_right _ (List.mem_append_right _ (List.mem_append_right _ (List.mem_append_right _ (List.mem_append_right _ (List.mem_append_right _ (List.mem_append_right _ (List.mem_append_right _ (List.mem_append_right _ (List.mem_append_right _ (List.mem_append_right _ (List.mem_append_right _ (List.mem_append_right _ (List.mem_append_right _ (List.mem_append_right _ (List.mem_append_right _ (List.mem_append_right _ (List.mem_append_right _ (List.mem_append_right _ (List.mem_append_right _ (List.mem_append_right _ (List.mem_append_right _ (List.mem_append_right _ (List.mem_append_right _ (List.mem_append_right _ (List.mem_append_right _ (List.mem_append_right _ (List.mem_append_left _ h))))))))))))))))))))))))))))))))))))))))))))))))))))))))))))))))))
theorem wr_56 : ∀ w ∈ wsL_law_r56, w ∈ wsL_law := fun _ h => List.mem_append_left _ (List.mem_append_left _ (List.mem_append_left _ (List.mem_append_left _ (List.mem_append_left _ (List.mem_append_left _ (List.mem_append_left _ (List.mem_append_left _ (List.mem_append_left _ (List.mem_append_left _ (List.mem_append_left _ (List.mem_append_left _ (List.mem_append_right _ (List.mem_append_right _ (List.mem_append_right _ (List.mem_append_right _ (List.mem_append_right _ (List.mem_append_right _ (List.mem_append_right _ (List.mem_append_right _ (List.mem_append_right _ (List.mem_append_right _ (List.mem_append_right _ (List.mem_append_right _ (List.mem_append_right _ (List.mem_append_right _ (List.mem_append_right _ (List.mem_append_right _ (List.mem_append_right _ (List.mem_append_right _ (List.mem_append_right _ (List.mem_append_right _ (List.mem_append_right _ (List.mem_append_right _ (List.mem_append_right _ (List.mem_append_right _ (List.mem_append_right _ (List.mem_append_right _ (List.mem_append_right _ (List.mem_append_right _ (List.mem_append_right _ (List.mem_append_right _ (List.mem_append_right _ (List.mem_append_right _ (List.mem_append_right _ (List.mem_append_right _ (List.mem_append_right _ (List.mem_append_right _ (List.mem_append_right _ (List.mem_append_right _ (List.mem_append_right _ (List.mem_append_right _ (List.mem_append_right _ (List.mem_append_right _ (List.mem_append_right _ (List.mem_append_right _ (List.mem_append_right _ (List.mem_append_right _ (List.mem_append_right _ (List.mem_append_right _ (List.mem_append_right _ (List.mem_append_right _ (List.mem_append_right _ (List.mem_append_right _ (List.mem_append_right _ (List.mem_append_right _ (List.mem_append_right _ (List.mem_append_left _ h)))))))))))))))))))))))))))))))))))))))))))))))))))))))))))))))))))
theorem wr_57 : ∀ w ∈ wsL_law_r57, w ∈ wsL_law := fun _ h => List.mem_append_left _ (List.mem_append_left _ (List.mem_append_left _ (List.mem_append_left _ (List.mem_append_left _ (List.mem_append_left _ (List.mem_append_left _ (List.mem_append_left _ (List.mem_append_left _ (List.mem_append_left _ (List.mem_append_left _ (List.mem_append_left _ (List.mem_append_right _ (List.mem_append_right _ (List.mem_append_right _ (List.mem_append_right _ (List.mem_append_right _ (List.mem_append_right _ (List.mem_append_right _ (List.mem_append_right _ (List.mem_append_right _ (List.mem_append_right _ (List.mem_append_right _ (List.mem_append_right _ (List.mem_append_right _ (List.mem_append_right _ (List.mem_append_right _ (List.mem_append_right _ (List.mem_append_right _ (List.mem_append_right _ (List.mem_append_right _ (List.mem_append_right _ (List.mem_append_right _ (List.mem_append_right _ (List.mem_append_right _ (List.mem_append_right _ (List.mem_append_right _ (List.mem_append_right _ (List.mem_append_right _ (List.mem_append_right _ (List.mem_append_right _ (List.mem_append_right _ (List.mem_append_right _ (List.mem_append_right _ (List.mem_append_right _ (List.mem_append_right _ (List.mem_append_right _ (List.mem_append_right _ (List.mem_append_right _ (List.mem_append_right _ (List.mem_append_right _ (List.mem_append_right _ (List.mem_append_right _ (List.mem_append_right _ (List.mem_append_right _ (List.mem_append_right _ (List.mem_append_right _ (List.mem_append_right _ (List.mem_append_right _ (List.mem_append_right _ (List.mem_append_right _ (List.mem_append_right _ (List.mem_append_right _ (List.mem_append_right _ (List.mem_append_right _ (List.mem_append_right _ (List.mem_append_right _ (List.mem_append_right _ (List.mem_append_left _ h))))))))))))))))))))))))))))))))))))))))))))))))))))))))))))))))))))
theorem wr_58 : ∀ w ∈ wsL_law_r58, w ∈ wsL_law := fun _ h => List.mem_append_left _ (List.mem_append_left _ (List.mem_append_left _ (List.mem_append_left _ (List.mem_append_left _ (List.mem_append_left _ (List.mem_append_left _ (List.mem_append_left _ (List.mem_append_left _ (List.mem_append_left _ (List.mem_append_left _ (List.mem_append_left _ (List.mem_append_right _ (List.mem_append_right _ (List.mem_append_right _ (List.mem_append_right _ (List.mem_append_right _ (List.mem_append_right _ (List.mem_append_right _ (List.mem_append_right _ (List.mem_append_right _ (List.mem_append_right _ (List.mem_append_right _ (List.mem_append_right _ (List.mem_append_right _ (List.mem_append_right _ (List.mem_append_right _ (List.mem_append_right _ (List.mem_append_right _ (List.mem_append_right _ (List.mem_append_right _ (List.mem_append_right _ (List.mem_append_right _ (List.mem_append_right _ (List.mem_append_right _ (List.mem_append_right _ (List.mem_append_right _ (List.mem_append_right _ (List.mem_append_right _ (List.mem_append_right _ (List.mem_append_right _ (List.mem_append_right _ (List.mem_append_right _ (List.mem_append_right _ (List.mem_append_right _ (List.mem_append_right _ (List.mem_append_right _ (List.mem_append_right _ (List.mem_append_right _ (List.mem_append_right _ (List.mem_append_right _ (List.mem_append_right _ (List.mem_append_right _ (List.mem_append_right _ (List.mem_append_right _ (List.mem_append_right _ (List.mem_append_right _ (List.mem_append_right _ (List.mem_append_right _ (List.mem_append_right _ (List.mem_append_right _ (List.mem_append_right _ (List.mem_append_right _ (List.mem_append_right _ (List.mem_append_right _ (List.mem_append_right _ (List.mem_append_right _ (List.mem_append_right _ (List.mem_append_right _ (List.mem_append_left _ h)))))))))))))))))))))))))))))))))))))))))))))))))))))))))))))))))))))
theorem wr_59 : ∀ w ∈ wsL_law_r59, w ∈ wsL_law := fun _ h => List.mem_append_left _ (List.mem_append_left _ (List.mem_append_left _ (List.mem_append_left _ (List.mem_append_left _ (List.mem_append_left _ (List.mem_append_left _ (List.mem_append_left _ (List.mem_append_left _ (List.mem_append_left _ (List.mem_append_left _ (List.mem_append_left _ (List.mem_append_right _ (List.mem_append_right _ (List.mem_append_right _ (List.mem_append_right _ (List.mem_append_right _ (List.mem_append_right _ (List.mem_append_right _ (List.mem_append_right _ (List.mem_append_right _ (List.mem_append_right _ (List.mem_append_right _ (List.mem_append_right _ (List.mem_append_right _ (List.mem_append_right _ (List.mem_append_right _ (List.mem_append_right _ (List.mem_append_right _ (List.mem_append_right _ (List.mem_append_right _ (List.mem_append_right _ (List.mem_append_right _ (List.mem_append_right _ (List.mem_append_right _ (List.mem_append_right _ (List.mem_append_right _ (List.mem_append_right _ (List.mem_append_right _ (List.mem_append_right _ (List.mem_append_right _ (List.mem_append_right _ (List.mem_append_right _ (List.mem_append_right _ (List.mem_append_right _ (List.mem_append_right _ (List.mem_append_right _ (List.mem_append_right _ (List.mem_append_right _ (List.mem_append_right _ (List.mem_append_right _ (List.mem_append_right _ (List.mem_append_right _ (List.mem_append_right _ (List.mem_append_right _ (List.mem_append_right _ (List.mem_append_right _ (List.mem_append_right _ (List.mem_append_right _ (List.mem_append_right _ (List.mem_append_right _ (List.mem_append_right _ (List.mem_append_right _ (List.mem_append_right _ (List.mem_append_right _ (List.mem_append_right _ (List.mem_append_right _ (List.mem_append_right _ (List.mem_append_right _ (List.mem_append_right _ (List.mem_append_left _ h))))))))))))))))))))))))))))))))))))))))))))))))))))))))))))))))))))))
theorem wr_60 : ∀ w ∈ wsL_law_r60, w ∈ wsL_law := fun _ h => List.mem_append_left _ (List.mem_append_left _ (List.mem_append_left _ (List.mem_append_left _ (List.mem_append_left _ (List.mem_append_left _ (List.mem_append_left _ (List.mem_append_left _ (List.mem_append_left _ (List.mem_append_left _ (List.mem_append_left _ (List.mem_append_left _ (List.mem_append_right _ (List.mem_append_right _ (List.mem_append_right _ (List.mem_append_right _ (List.mem_append_right _ (List.mem_append_right _ (List.mem_append_right _ (List.mem_append_right _ (List.mem_append_right _ (List.mem_append_right _ (List.mem_append_right _ (List.mem_append_right _ (List.mem_append_right _ (List.mem_append_right _ (List.mem_append_right _ (List.mem_append_right _ (List.mem_append_right _ (List.mem_append_right _ (List.mem_append_right _ (List.mem_append_right _ (List.mem_append_right _ (List.mem_append_right _ (List.mem_append_right _ (List.mem_append_right _ (List.mem_append_right _ (List.mem_append_right _ (List.mem_append_right _ (List.mem_append_right _ (List.mem_append_right _ (List.mem_append_right _ (List.mem_append_right _ (List.mem_append_right _ (List.mem_append_right _ (List.mem_append_right _ (List.mem_append_right _ (List.mem_append_right _ (List.mem_append_right _ (List.mem_append_right _ (List.mem_append_right _ (List.mem_append_right _ (List.mem_append_right _ (List.mem_append_right _ (List.mem_append_right _ (List.mem_append_right _ (List.mem_append_right _ (List.mem_append_right _ (List.mem_append_right _ (List.mem_append_right _ (List.mem_append_right _ (List.mem_append_right _ (List.mem_append_right _ (List.mem_append_right _ (List.mem_append_right _ (List.mem_append_right _ (List.mem_append_right _ (List.mem_append_right _ (List.mem_append_right _ (List.mem_append_right _ (List.mem_append_right _ (List.mem_append_left _ h)))))))))))))))))))))))))))))))))))))))))))))))))))))))))))))))))))))))
theorem wr_61 : ∀ w ∈ wsL_law_r61, w ∈ wsL_law := fun _ h => List.mem_append_left _ (List.mem_append_left _ (List.mem_append_left _ (List.mem_append_left _ (List.mem_append_left _ (List.mem_append_left _ (List.mem_append_left _ (List.mem_append_left _ (List.mem_append_left _ (List.mem_append_left _ (List.mem_append_left _ (List.mem_append_left _ (List.mem_append_right _ (List.mem_append_right _ (List.mem_append_right _ (List.mem_append_right _ (List.mem_append_right _ (List.mem_append_right _ (List.mem_append_right _ (List.mem_append_right _ (List.mem_append_right _ (List.mem_append_right _ (List.mem_append_right _ (List.mem_append_right _ (List.mem_append_right _ (List.mem_append_right _ (List.mem_append_right _ (List.mem_append_right _ (List.mem_append_right _ (List.mem_append_right _ (List.mem_append_right _ (List.mem_append_right _ (List.mem_append_right _ (List.mem_append_right _ (List.mem_append_right _ (List.mem_append_right _ (List.mem_append_right _ (List.mem_append_right _ (List.mem_append_right _ (List.mem_append_right _ (List.mem_append_right _ (List.mem_append_right _ (List.mem_append_right _ (List.mem_append_right _ (List.mem_append_right _ (List.mem_append_right _ (List.mem_append_right _ (List.mem_append_right _ (List.mem_append_right _ (List.mem_append_right _ (List.mem_append_right _ (List.mem_append_right _ (List.mem_append_right _ (List.mem_append_right _ (List.mem_append_right _ (List.mem_append_right _ (List.mem_append_right _ (List.mem_append_right _ (List.mem_append_right _ (List.mem_append_right _ (List.mem_append_right _ (List.mem_append_right _ (List.mem_append_right _ (List.mem_append_right _ (List.mem_append_right _ (List.mem_append_right _ (List.mem_append_right _ (List.mem_append_right _ (List.mem_append_right _ (List.mem_append_right _ (List.mem_append_right _ (List.mem_append_right _ h)))))))))))))))))))))))))))))))))))))))))))))))))))))))))))))))))))))))
theorem wq_1_0 : Cond.classLink RL 7 RX9 ∈ wsL_law := wr_1 _ (List.mem_of_getElem? (i := 0) rfl)
theorem wq_1_1 : Cond.instantiable RX9 14 ∈ wsL_law := wr_1 _ (List.mem_of_getElem? (i := 1) rfl)
theorem wq_1_2 : Cond.initialized RX9 ∈ wsL_law := wr_1 _ (List.mem_of_getElem? (i := 2) rfl)
theorem wq_1_3 : Cond.classLink RL 10 RX10 ∈ wsL_law := wr_1 _ (List.mem_of_getElem? (i := 3) rfl)
theorem wq_1_4 : Cond.instantiable RX10 42 ∈ wsL_law := wr_1 _ (List.mem_of_getElem? (i := 4) rfl)
theorem wq_1_5 : Cond.initialized RX10 ∈ wsL_law := wr_1 _ (List.mem_of_getElem? (i := 5) rfl)
theorem wq_1_6 : Cond.constantLong RL 316 (4294967295) ∈ wsL_law := wr_1 _ (List.mem_of_getElem? (i := 6) rfl)
theorem wq_1_7 : Cond.methodLink RL 9 yX9_init ∈ wsL_law := wr_1 _ (List.mem_of_getElem? (i := 7) rfl)
theorem wq_1_8 : Cond.instanceMethod yX9_init ∈ wsL_law := wr_1 _ (List.mem_of_getElem? (i := 8) rfl)
theorem wq_1_9 : Cond.code yX9_init cX9_init 2 none ∈ wsL_law := wr_1 _ (List.mem_of_getElem? (i := 9) rfl)
theorem wq_1_10 : Cond.methodLink RX9 1 objectInit ∈ wsL_law := wr_1 _ (List.mem_of_getElem? (i := 10) rfl)
theorem wq_1_11 : Cond.instanceMethod objectInit ∈ wsL_law := wr_1 _ (List.mem_of_getElem? (i := 11) rfl)
theorem wq_1_12 : Cond.code objectInit ⟨#[0xb1]⟩ 1 none ∈ wsL_law := wr_1 _ (List.mem_of_getElem? (i := 12) rfl)
theorem wq_1_13 : Cond.classLink RX9 7 RX6 ∈ wsL_law := wr_1 _ (List.mem_of_getElem? (i := 13) rfl)
theorem wq_1_14 : Cond.instantiable RX6 2 ∈ wsL_law := wr_1 _ (List.mem_of_getElem? (i := 14) rfl)
theorem wq_1_15 : Cond.initialized RX6 ∈ wsL_law := wr_1 _ (List.mem_of_getElem? (i := 15) rfl)
theorem wq_1_16 : Cond.fieldLink RX9 10 "QuotedRiver" "tape" "LQuotedRiver$Tape;" ∈ wsL_law := wr_1 _ (List.mem_of_getElem? (i := 16) rfl)
theorem wq_1_17 : Cond.classLink RX9 16 RX1 ∈ wsL_law := wr_1 _ (List.mem_of_getElem? (i := 17) rfl)
theorem wq_1_18 : Cond.instantiable RX1 6 ∈ wsL_law := wr_1 _ (List.mem_of_getElem? (i := 18) rfl)
theorem wq_1_19 : Cond.initialized RX1 ∈ wsL_law := wr_1 _ (List.mem_of_getElem? (i := 19) rfl)
theorem wq_1_20 : Cond.fieldLink RX9 19 "QuotedRiver" "reader" "LQuotedRiver$Reader;" ∈ wsL_law := wr_1 _ (List.mem_of_getElem? (i := 20) rfl)
theorem wq_1_21 : Cond.classLink RX9 23 RX2 ∈ wsL_law := wr_1 _ (List.mem_of_getElem? (i := 21) rfl)
theorem wq_1_22 : Cond.instantiable RX2 20 ∈ wsL_law := wr_1 _ (List.mem_of_getElem? (i := 22) rfl)
theorem wq_1_23 : Cond.initialized RX2 ∈ wsL_law := wr_1 _ (List.mem_of_getElem? (i := 23) rfl)
theorem wq_2_0 : Cond.fieldLink RX9 26 "QuotedRiver" "now" "LQuotedRiver$Rivers;" ∈ wsL_law := wr_2 _ (List.mem_of_getElem? (i := 0) rfl)
theorem wq_2_1 : Cond.fieldLink RX9 30 "QuotedRiver" "tried" "LQuotedRiver$Rivers;" ∈ wsL_law := wr_2 _ (List.mem_of_getElem? (i := 1) rfl)
theorem wq_2_2 : Cond.fieldLink RX9 33 "QuotedRiver" "images" "[LQuotedRiver$Rivers;" ∈ wsL_law := wr_2 _ (List.mem_of_getElem? (i := 2) rfl)
theorem wq_2_3 : Cond.fieldLink RX9 37 "QuotedRiver" "imagesKept" "I" ∈ wsL_law := wr_2 _ (List.mem_of_getElem? (i := 3) rfl)
theorem wq_2_4 : Cond.classLink RX9 41 RX8 ∈ wsL_law := wr_2 _ (List.mem_of_getElem? (i := 4) rfl)
theorem wq_2_5 : Cond.instantiable RX8 3 ∈ wsL_law := wr_2 _ (List.mem_of_getElem? (i := 5) rfl)
theorem wq_2_6 : Cond.initialized RX8 ∈ wsL_law := wr_2 _ (List.mem_of_getElem? (i := 6) rfl)
theorem wq_2_7 : Cond.fieldLink RX9 44 "QuotedRiver" "water" "LQuotedRiver$Water;" ∈ wsL_law := wr_2 _ (List.mem_of_getElem? (i := 7) rfl)
theorem wq_2_8 : Cond.fieldLink RX9 48 "QuotedRiver" "trial" "LQuotedRiver$Water;" ∈ wsL_law := wr_2 _ (List.mem_of_getElem? (i := 8) rfl)
theorem wq_2_9 : Cond.classLink RX9 51 RX5 ∈ wsL_law := wr_2 _ (List.mem_of_getElem? (i := 9) rfl)
theorem wq_2_10 : Cond.instantiable RX5 9 ∈ wsL_law := wr_2 _ (List.mem_of_getElem? (i := 10) rfl)
theorem wq_2_11 : Cond.initialized RX5 ∈ wsL_law := wr_2 _ (List.mem_of_getElem? (i := 11) rfl)
theorem wq_2_12 : Cond.fieldLink RX9 54 "QuotedRiver" "stick" "LQuotedRiver$Stick;" ∈ wsL_law := wr_2 _ (List.mem_of_getElem? (i := 12) rfl)
theorem wq_2_13 : Cond.fieldLink RX9 58 "QuotedRiver" "mate" "LQuotedRiver$Stick;" ∈ wsL_law := wr_2 _ (List.mem_of_getElem? (i := 13) rfl)
theorem wq_2_14 : Cond.classLink RX9 61 RX3 ∈ wsL_law := wr_2 _ (List.mem_of_getElem? (i := 14) rfl)
theorem wq_2_15 : Cond.fieldLink RX9 63 "QuotedRiver" "rows" "[LQuotedRiver$Row;" ∈ wsL_law := wr_2 _ (List.mem_of_getElem? (i := 15) rfl)
theorem wq_2_16 : Cond.classLink RX9 67 RX4 ∈ wsL_law := wr_2 _ (List.mem_of_getElem? (i := 16) rfl)
theorem wq_2_17 : Cond.instantiable RX4 4 ∈ wsL_law := wr_2 _ (List.mem_of_getElem? (i := 17) rfl)
theorem wq_2_18 : Cond.initialized RX4 ∈ wsL_law := wr_2 _ (List.mem_of_getElem? (i := 18) rfl)
theorem wq_2_19 : Cond.fieldLink RX9 70 "QuotedRiver" "found" "LQuotedRiver$Sources;" ∈ wsL_law := wr_2 _ (List.mem_of_getElem? (i := 19) rfl)
theorem wq_2_20 : Cond.classLink RX9 74 RX0 ∈ wsL_law := wr_2 _ (List.mem_of_getElem? (i := 20) rfl)
theorem wq_2_21 : Cond.instantiable RX0 4 ∈ wsL_law := wr_2 _ (List.mem_of_getElem? (i := 21) rfl)
theorem wq_2_22 : Cond.initialized RX0 ∈ wsL_law := wr_2 _ (List.mem_of_getElem? (i := 22) rfl)
theorem wq_2_23 : Cond.fieldLink RX9 77 "QuotedRiver" "chances" "LQuotedRiver$Chances;" ∈ wsL_law := wr_2 _ (List.mem_of_getElem? (i := 23) rfl)
theorem wq_3_0 : Cond.arrayClass .int ∈ wsL_law := wr_3 _ (List.mem_of_getElem? (i := 0) rfl)
theorem wq_3_1 : Cond.fieldLink RX9 81 "QuotedRiver" "scratch" "[I" ∈ wsL_law := wr_3 _ (List.mem_of_getElem? (i := 1) rfl)
theorem wq_3_2 : Cond.instantiable RX3 4 ∈ wsL_law := wr_3 _ (List.mem_of_getElem? (i := 2) rfl)
theorem wq_3_3 : Cond.initialized RX3 ∈ wsL_law := wr_3 _ (List.mem_of_getElem? (i := 3) rfl)
theorem wq_3_4 : Cond.instanceMethod yX6_init ∈ wsL_law := wr_3 _ (List.mem_of_getElem? (i := 4) rfl)
theorem wq_3_5 : Cond.code yX6_init cX6_init 1 none ∈ wsL_law := wr_3 _ (List.mem_of_getElem? (i := 5) rfl)
theorem wq_3_6 : Cond.methodLink RX6 3 objectInit ∈ wsL_law := wr_3 _ (List.mem_of_getElem? (i := 6) rfl)
theorem wq_3_7 : Cond.fieldLink RX6 9 "QuotedRiver$Tape" "bytes" "[I" ∈ wsL_law := wr_3 _ (List.mem_of_getElem? (i := 7) rfl)
theorem wq_3_8 : Cond.fieldLink RX6 15 "QuotedRiver$Tape" "size" "I" ∈ wsL_law := wr_3 _ (List.mem_of_getElem? (i := 8) rfl)
theorem wq_3_9 : Cond.instanceMethod yX1_init ∈ wsL_law := wr_3 _ (List.mem_of_getElem? (i := 9) rfl)
theorem wq_3_10 : Cond.code yX1_init cX1_init 1 none ∈ wsL_law := wr_3 _ (List.mem_of_getElem? (i := 10) rfl)
theorem wq_3_11 : Cond.methodLink RX1 3 objectInit ∈ wsL_law := wr_3 _ (List.mem_of_getElem? (i := 11) rfl)
theorem wq_3_12 : Cond.classLink RX1 9 RX7 ∈ wsL_law := wr_3 _ (List.mem_of_getElem? (i := 12) rfl)
theorem wq_3_13 : Cond.instantiable RX7 4 ∈ wsL_law := wr_3 _ (List.mem_of_getElem? (i := 13) rfl)
theorem wq_3_14 : Cond.initialized RX7 ∈ wsL_law := wr_3 _ (List.mem_of_getElem? (i := 14) rfl)
theorem wq_3_15 : Cond.fieldLink RX1 12 "QuotedRiver$Reader" "tokens" "LQuotedRiver$Tokens;" ∈ wsL_law := wr_3 _ (List.mem_of_getElem? (i := 15) rfl)
theorem wq_3_16 : Cond.classLink RX1 18 RX2 ∈ wsL_law := wr_3 _ (List.mem_of_getElem? (i := 16) rfl)
theorem wq_3_17 : Cond.fieldLink RX1 21 "QuotedRiver$Reader" "rivers" "LQuotedRiver$Rivers;" ∈ wsL_law := wr_3 _ (List.mem_of_getElem? (i := 17) rfl)
theorem wq_3_18 : Cond.fieldLink RX1 25 "QuotedRiver$Reader" "fault" "I" ∈ wsL_law := wr_3 _ (List.mem_of_getElem? (i := 18) rfl)
theorem wq_3_19 : Cond.fieldLink RX1 29 "QuotedRiver$Reader" "faultPlace" "I" ∈ wsL_law := wr_3 _ (List.mem_of_getElem? (i := 19) rfl)
theorem wq_3_20 : Cond.fieldLink RX1 32 "QuotedRiver$Reader" "kind" "I" ∈ wsL_law := wr_3 _ (List.mem_of_getElem? (i := 20) rfl)
theorem wq_3_21 : Cond.fieldLink RX1 35 "QuotedRiver$Reader" "next" "I" ∈ wsL_law := wr_3 _ (List.mem_of_getElem? (i := 21) rfl)
theorem wq_3_22 : Cond.instanceMethod yX7_init ∈ wsL_law := wr_3 _ (List.mem_of_getElem? (i := 22) rfl)
theorem wq_3_23 : Cond.code yX7_init cX7_init 1 none ∈ wsL_law := wr_3 _ (List.mem_of_getElem? (i := 23) rfl)
theorem wq_4_0 : Cond.methodLink RX7 3 objectInit ∈ wsL_law := wr_4 _ (List.mem_of_getElem? (i := 0) rfl)
theorem wq_4_1 : Cond.fieldLink RX7 9 "QuotedRiver$Tokens" "kinds" "[I" ∈ wsL_law := wr_4 _ (List.mem_of_getElem? (i := 1) rfl)
theorem wq_4_2 : Cond.fieldLink RX7 15 "QuotedRiver$Tokens" "places" "[I" ∈ wsL_law := wr_4 _ (List.mem_of_getElem? (i := 2) rfl)
theorem wq_4_3 : Cond.fieldLink RX7 18 "QuotedRiver$Tokens" "values" "[I" ∈ wsL_law := wr_4 _ (List.mem_of_getElem? (i := 3) rfl)
theorem wq_4_4 : Cond.fieldLink RX7 21 "QuotedRiver$Tokens" "size" "I" ∈ wsL_law := wr_4 _ (List.mem_of_getElem? (i := 4) rfl)
theorem wq_4_5 : Cond.instanceMethod yX2_init ∈ wsL_law := wr_4 _ (List.mem_of_getElem? (i := 5) rfl)
theorem wq_4_6 : Cond.code yX2_init cX2_init 1 none ∈ wsL_law := wr_4 _ (List.mem_of_getElem? (i := 6) rfl)
theorem wq_4_7 : Cond.methodLink RX2 3 objectInit ∈ wsL_law := wr_4 _ (List.mem_of_getElem? (i := 7) rfl)
theorem wq_4_8 : Cond.fieldLink RX2 9 "QuotedRiver$Rivers" "told" "Z" ∈ wsL_law := wr_4 _ (List.mem_of_getElem? (i := 8) rfl)
theorem wq_4_9 : Cond.fieldLink RX2 15 "QuotedRiver$Rivers" "level" "I" ∈ wsL_law := wr_4 _ (List.mem_of_getElem? (i := 9) rfl)
theorem wq_4_10 : Cond.fieldLink RX2 19 "QuotedRiver$Rivers" "odds" "I" ∈ wsL_law := wr_4 _ (List.mem_of_getElem? (i := 10) rfl)
theorem wq_4_11 : Cond.fieldLink RX2 22 "QuotedRiver$Rivers" "swell" "I" ∈ wsL_law := wr_4 _ (List.mem_of_getElem? (i := 11) rfl)
theorem wq_4_12 : Cond.fieldLink RX2 25 "QuotedRiver$Rivers" "reaches" "I" ∈ wsL_law := wr_4 _ (List.mem_of_getElem? (i := 12) rfl)
theorem wq_4_13 : Cond.fieldLink RX2 28 "QuotedRiver$Rivers" "target" "[I" ∈ wsL_law := wr_4 _ (List.mem_of_getElem? (i := 13) rfl)
theorem wq_4_14 : Cond.fieldLink RX2 32 "QuotedRiver$Rivers" "takes" "[I" ∈ wsL_law := wr_4 _ (List.mem_of_getElem? (i := 14) rfl)
theorem wq_4_15 : Cond.fieldLink RX2 35 "QuotedRiver$Rivers" "low" "[I" ∈ wsL_law := wr_4 _ (List.mem_of_getElem? (i := 15) rfl)
theorem wq_4_16 : Cond.fieldLink RX2 38 "QuotedRiver$Rivers" "joins" "I" ∈ wsL_law := wr_4 _ (List.mem_of_getElem? (i := 16) rfl)
theorem wq_4_17 : Cond.fieldLink RX2 41 "QuotedRiver$Rivers" "joinFrom" "[I" ∈ wsL_law := wr_4 _ (List.mem_of_getElem? (i := 17) rfl)
theorem wq_4_18 : Cond.fieldLink RX2 44 "QuotedRiver$Rivers" "joinTo" "[I" ∈ wsL_law := wr_4 _ (List.mem_of_getElem? (i := 18) rfl)
theorem wq_4_19 : Cond.fieldLink RX2 47 "QuotedRiver$Rivers" "joinEach" "[I" ∈ wsL_law := wr_4 _ (List.mem_of_getElem? (i := 19) rfl)
theorem wq_4_20 : Cond.fieldLink RX2 50 "QuotedRiver$Rivers" "joinAt" "[I" ∈ wsL_law := wr_4 _ (List.mem_of_getElem? (i := 20) rfl)
theorem wq_4_21 : Cond.fieldLink RX2 53 "QuotedRiver$Rivers" "rains" "I" ∈ wsL_law := wr_4 _ (List.mem_of_getElem? (i := 21) rfl)
theorem wq_4_22 : Cond.fieldLink RX2 56 "QuotedRiver$Rivers" "rainMuch" "[I" ∈ wsL_law := wr_4 _ (List.mem_of_getElem? (i := 22) rfl)
theorem wq_4_23 : Cond.fieldLink RX2 59 "QuotedRiver$Rivers" "rainStep" "[I" ∈ wsL_law := wr_4 _ (List.mem_of_getElem? (i := 23) rfl)
theorem wq_5_0 : Cond.fieldLink RX2 62 "QuotedRiver$Rivers" "acts" "I" ∈ wsL_law := wr_5 _ (List.mem_of_getElem? (i := 0) rfl)
theorem wq_5_1 : Cond.fieldLink RX2 65 "QuotedRiver$Rivers" "actKind" "[I" ∈ wsL_law := wr_5 _ (List.mem_of_getElem? (i := 1) rfl)
theorem wq_5_2 : Cond.fieldLink RX2 68 "QuotedRiver$Rivers" "actOn" "[I" ∈ wsL_law := wr_5 _ (List.mem_of_getElem? (i := 2) rfl)
theorem wq_5_3 : Cond.fieldLink RX2 71 "QuotedRiver$Rivers" "actBy" "[I" ∈ wsL_law := wr_5 _ (List.mem_of_getElem? (i := 3) rfl)
theorem wq_5_4 : Cond.instanceMethod yX8_init ∈ wsL_law := wr_5 _ (List.mem_of_getElem? (i := 4) rfl)
theorem wq_5_5 : Cond.code yX8_init cX8_init 1 none ∈ wsL_law := wr_5 _ (List.mem_of_getElem? (i := 5) rfl)
theorem wq_5_6 : Cond.methodLink RX8 3 objectInit ∈ wsL_law := wr_5 _ (List.mem_of_getElem? (i := 6) rfl)
theorem wq_5_7 : Cond.fieldLink RX8 9 "QuotedRiver$Water" "rains" "[I" ∈ wsL_law := wr_5 _ (List.mem_of_getElem? (i := 7) rfl)
theorem wq_5_8 : Cond.fieldLink RX8 15 "QuotedRiver$Water" "levels" "[I" ∈ wsL_law := wr_5 _ (List.mem_of_getElem? (i := 8) rfl)
theorem wq_5_9 : Cond.fieldLink RX8 18 "QuotedRiver$Water" "shutJoins" "I" ∈ wsL_law := wr_5 _ (List.mem_of_getElem? (i := 9) rfl)
theorem wq_5_10 : Cond.instanceMethod yX5_init ∈ wsL_law := wr_5 _ (List.mem_of_getElem? (i := 10) rfl)
theorem wq_5_11 : Cond.code yX5_init cX5_init 1 none ∈ wsL_law := wr_5 _ (List.mem_of_getElem? (i := 11) rfl)
theorem wq_5_12 : Cond.methodLink RX5 3 objectInit ∈ wsL_law := wr_5 _ (List.mem_of_getElem? (i := 12) rfl)
theorem wq_5_13 : Cond.fieldLink RX5 9 "QuotedRiver$Stick" "spots" "[I" ∈ wsL_law := wr_5 _ (List.mem_of_getElem? (i := 13) rfl)
theorem wq_5_14 : Cond.fieldLink RX5 15 "QuotedRiver$Stick" "visited" "I" ∈ wsL_law := wr_5 _ (List.mem_of_getElem? (i := 14) rfl)
theorem wq_5_15 : Cond.fieldLink RX5 19 "QuotedRiver$Stick" "newest" "I" ∈ wsL_law := wr_5 _ (List.mem_of_getElem? (i := 15) rfl)
theorem wq_5_16 : Cond.fieldLink RX5 22 "QuotedRiver$Stick" "revisit" "I" ∈ wsL_law := wr_5 _ (List.mem_of_getElem? (i := 16) rfl)
theorem wq_5_17 : Cond.fieldLink RX5 25 "QuotedRiver$Stick" "inSea" "I" ∈ wsL_law := wr_5 _ (List.mem_of_getElem? (i := 17) rfl)
theorem wq_5_18 : Cond.fieldLink RX5 28 "QuotedRiver$Stick" "stood" "I" ∈ wsL_law := wr_5 _ (List.mem_of_getElem? (i := 18) rfl)
theorem wq_5_19 : Cond.fieldLink RX5 31 "QuotedRiver$Stick" "departures" "I" ∈ wsL_law := wr_5 _ (List.mem_of_getElem? (i := 19) rfl)
theorem wq_5_20 : Cond.fieldLink RX5 34 "QuotedRiver$Stick" "byJoin" "I" ∈ wsL_law := wr_5 _ (List.mem_of_getElem? (i := 20) rfl)
theorem wq_5_21 : Cond.fieldLink RX5 37 "QuotedRiver$Stick" "joinsTaken" "I" ∈ wsL_law := wr_5 _ (List.mem_of_getElem? (i := 21) rfl)
theorem wq_5_22 : Cond.instanceMethod yX4_init ∈ wsL_law := wr_5 _ (List.mem_of_getElem? (i := 22) rfl)
theorem wq_5_23 : Cond.code yX4_init cX4_init 1 none ∈ wsL_law := wr_5 _ (List.mem_of_getElem? (i := 23) rfl)
theorem wq_6_0 : Cond.methodLink RX4 3 objectInit ∈ wsL_law := wr_6 _ (List.mem_of_getElem? (i := 0) rfl)
theorem wq_6_1 : Cond.fieldLink RX4 9 "QuotedRiver$Sources" "pairs" "I" ∈ wsL_law := wr_6 _ (List.mem_of_getElem? (i := 1) rfl)
theorem wq_6_2 : Cond.fieldLink RX4 15 "QuotedRiver$Sources" "reaches" "I" ∈ wsL_law := wr_6 _ (List.mem_of_getElem? (i := 2) rfl)
theorem wq_6_3 : Cond.fieldLink RX4 18 "QuotedRiver$Sources" "first" "I" ∈ wsL_law := wr_6 _ (List.mem_of_getElem? (i := 3) rfl)
theorem wq_6_4 : Cond.fieldLink RX4 21 "QuotedRiver$Sources" "tally" "[I" ∈ wsL_law := wr_6 _ (List.mem_of_getElem? (i := 4) rfl)
theorem wq_6_5 : Cond.instanceMethod yX0_init ∈ wsL_law := wr_6 _ (List.mem_of_getElem? (i := 5) rfl)
theorem wq_6_6 : Cond.code yX0_init cX0_init 1 none ∈ wsL_law := wr_6 _ (List.mem_of_getElem? (i := 6) rfl)
theorem wq_6_7 : Cond.methodLink RX0 3 objectInit ∈ wsL_law := wr_6 _ (List.mem_of_getElem? (i := 7) rfl)
theorem wq_6_8 : Cond.arrayClass .long ∈ wsL_law := wr_6 _ (List.mem_of_getElem? (i := 8) rfl)
theorem wq_6_9 : Cond.fieldLink RX0 9 "QuotedRiver$Chances" "weights" "[J" ∈ wsL_law := wr_6 _ (List.mem_of_getElem? (i := 9) rfl)
theorem wq_6_10 : Cond.fieldLink RX0 15 "QuotedRiver$Chances" "later" "[J" ∈ wsL_law := wr_6 _ (List.mem_of_getElem? (i := 10) rfl)
theorem wq_6_11 : Cond.fieldLink RX0 18 "QuotedRiver$Chances" "top" "I" ∈ wsL_law := wr_6 _ (List.mem_of_getElem? (i := 11) rfl)
theorem wq_6_12 : Cond.fieldLink RX0 22 "QuotedRiver$Chances" "whole" "J" ∈ wsL_law := wr_6 _ (List.mem_of_getElem? (i := 12) rfl)
theorem wq_6_13 : Cond.instanceMethod yX3_init ∈ wsL_law := wr_6 _ (List.mem_of_getElem? (i := 13) rfl)
theorem wq_6_14 : Cond.code yX3_init cX3_init 1 none ∈ wsL_law := wr_6 _ (List.mem_of_getElem? (i := 14) rfl)
theorem wq_6_15 : Cond.methodLink RX3 3 objectInit ∈ wsL_law := wr_6 _ (List.mem_of_getElem? (i := 15) rfl)
theorem wq_6_16 : Cond.fieldLink RX3 9 "QuotedRiver$Row" "there" "Z" ∈ wsL_law := wr_6 _ (List.mem_of_getElem? (i := 16) rfl)
theorem wq_6_17 : Cond.fieldLink RX3 15 "QuotedRiver$Row" "width" "I" ∈ wsL_law := wr_6 _ (List.mem_of_getElem? (i := 17) rfl)
theorem wq_6_18 : Cond.fieldLink RX3 19 "QuotedRiver$Row" "size" "I" ∈ wsL_law := wr_6 _ (List.mem_of_getElem? (i := 18) rfl)
theorem wq_6_19 : Cond.fieldLink RX3 22 "QuotedRiver$Row" "numbers" "[J" ∈ wsL_law := wr_6 _ (List.mem_of_getElem? (i := 19) rfl)
theorem wq_6_20 : Cond.methodLink RL 12 yX10_init ∈ wsL_law := wr_6 _ (List.mem_of_getElem? (i := 20) rfl)
theorem wq_6_21 : Cond.instanceMethod yX10_init ∈ wsL_law := wr_6 _ (List.mem_of_getElem? (i := 21) rfl)
theorem wq_6_22 : Cond.code yX10_init cX10_init 1 none ∈ wsL_law := wr_6 _ (List.mem_of_getElem? (i := 22) rfl)
theorem wq_6_23 : Cond.methodLink RX10 3 objectInit ∈ wsL_law := wr_6 _ (List.mem_of_getElem? (i := 23) rfl)
theorem wq_7_0 : Cond.fieldLink RX10 9 "QuotedRiverModel" "world" "[I" ∈ wsL_law := wr_7 _ (List.mem_of_getElem? (i := 0) rfl)
theorem wq_7_1 : Cond.fieldLink RX10 13 "QuotedRiverModel" "images" "[I" ∈ wsL_law := wr_7 _ (List.mem_of_getElem? (i := 1) rfl)
theorem wq_7_2 : Cond.arrayClass .boolean ∈ wsL_law := wr_7 _ (List.mem_of_getElem? (i := 2) rfl)
theorem wq_7_3 : Cond.fieldLink RX10 16 "QuotedRiverModel" "hasImage" "[Z" ∈ wsL_law := wr_7 _ (List.mem_of_getElem? (i := 3) rfl)
theorem wq_7_4 : Cond.arrayClass .byte ∈ wsL_law := wr_7 _ (List.mem_of_getElem? (i := 4) rfl)
theorem wq_7_5 : Cond.fieldLink RX10 20 "QuotedRiverModel" "tape" "[B" ∈ wsL_law := wr_7 _ (List.mem_of_getElem? (i := 5) rfl)
theorem wq_7_6 : Cond.fieldLink RX10 24 "QuotedRiverModel" "five" "[I" ∈ wsL_law := wr_7 _ (List.mem_of_getElem? (i := 6) rfl)
theorem wq_7_7 : Cond.fieldLink RX10 27 "QuotedRiverModel" "faultPlace" "I" ∈ wsL_law := wr_7 _ (List.mem_of_getElem? (i := 7) rfl)
theorem wq_7_8 : Cond.fieldLink RX10 31 "QuotedRiverModel" "fresh" "[I" ∈ wsL_law := wr_7 _ (List.mem_of_getElem? (i := 8) rfl)
theorem wq_7_9 : Cond.fieldLink RX10 34 "QuotedRiverModel" "rainAt" "[I" ∈ wsL_law := wr_7 _ (List.mem_of_getElem? (i := 9) rfl)
theorem wq_7_10 : Cond.fieldLink RX10 37 "QuotedRiverModel" "levelAt" "[I" ∈ wsL_law := wr_7 _ (List.mem_of_getElem? (i := 10) rfl)
theorem wq_7_11 : Cond.fieldLink RX10 40 "QuotedRiverModel" "standsAt" "[I" ∈ wsL_law := wr_7 _ (List.mem_of_getElem? (i := 11) rfl)
theorem wq_7_12 : Cond.fieldLink RX10 43 "QuotedRiverModel" "eachOf" "[I" ∈ wsL_law := wr_7 _ (List.mem_of_getElem? (i := 12) rfl)
theorem wq_7_13 : Cond.fieldLink RX10 46 "QuotedRiverModel" "turnOf" "[I" ∈ wsL_law := wr_7 _ (List.mem_of_getElem? (i := 13) rfl)
theorem wq_7_14 : Cond.fieldLink RX10 49 "QuotedRiverModel" "whereAt" "[I" ∈ wsL_law := wr_7 _ (List.mem_of_getElem? (i := 14) rfl)
theorem wq_7_15 : Cond.fieldLink RX10 52 "QuotedRiverModel" "arrives" "[Z" ∈ wsL_law := wr_7 _ (List.mem_of_getElem? (i := 15) rfl)
theorem wq_7_16 : Cond.fieldLink RX10 55 "QuotedRiverModel" "wasAt" "[I" ∈ wsL_law := wr_7 _ (List.mem_of_getElem? (i := 16) rfl)
theorem wq_7_17 : Cond.fieldLink RX10 58 "QuotedRiverModel" "manyIn" "[I" ∈ wsL_law := wr_7 _ (List.mem_of_getElem? (i := 17) rfl)
theorem wq_7_18 : Cond.fieldLink RX10 61 "QuotedRiverModel" "pairs" "[I" ∈ wsL_law := wr_7 _ (List.mem_of_getElem? (i := 18) rfl)
theorem wq_7_19 : Cond.constant RX10 64 (37210) ∈ wsL_law := wr_7 _ (List.mem_of_getElem? (i := 19) rfl)
theorem wq_7_20 : Cond.fieldLink RX10 65 "QuotedRiverModel" "wasBy" "[B" ∈ wsL_law := wr_7 _ (List.mem_of_getElem? (i := 20) rfl)
theorem wq_7_21 : Cond.fieldLink RX10 68 "QuotedRiverModel" "weightNow" "[J" ∈ wsL_law := wr_7 _ (List.mem_of_getElem? (i := 21) rfl)
theorem wq_7_22 : Cond.fieldLink RX10 72 "QuotedRiverModel" "weightThen" "[J" ∈ wsL_law := wr_7 _ (List.mem_of_getElem? (i := 22) rfl)
theorem wq_7_23 : Cond.fieldLink RX10 75 "QuotedRiverModel" "many" "[I" ∈ wsL_law := wr_7 _ (List.mem_of_getElem? (i := 23) rfl)
theorem wq_8_0 : Cond.fieldLink RX10 78 "QuotedRiverModel" "width" "[I" ∈ wsL_law := wr_8 _ (List.mem_of_getElem? (i := 0) rfl)
theorem wq_8_1 : Cond.fieldLink RX10 81 "QuotedRiverModel" "numbers" "[J" ∈ wsL_law := wr_8 _ (List.mem_of_getElem? (i := 1) rfl)
theorem wq_8_2 : Cond.fieldLink RX10 84 "QuotedRiverModel" "moving" "[J" ∈ wsL_law := wr_8 _ (List.mem_of_getElem? (i := 2) rfl)
theorem wq_8_3 : Cond.methodLink RL 13 yX9_feed ∈ wsL_law := wr_8 _ (List.mem_of_getElem? (i := 3) rfl)
theorem wq_8_4 : Cond.instanceMethod yX9_feed ∈ wsL_law := wr_8 _ (List.mem_of_getElem? (i := 4) rfl)
theorem wq_8_5 : Cond.selects RX9 yX9_feed yX9_feed ∈ wsL_law := wr_8 _ (List.mem_of_getElem? (i := 5) rfl)
theorem wq_8_6 : Cond.code yX9_feed cX9_feed 6 (some .int) ∈ wsL_law := wr_8 _ (List.mem_of_getElem? (i := 6) rfl)
theorem wq_8_7 : Cond.instanceMethod yX6_append ∈ wsL_law := wr_8 _ (List.mem_of_getElem? (i := 7) rfl)
theorem wq_8_8 : Cond.selects RX6 yX6_append yX6_append ∈ wsL_law := wr_8 _ (List.mem_of_getElem? (i := 8) rfl)
theorem wq_8_9 : Cond.code yX6_append cX6_append 3 none ∈ wsL_law := wr_8 _ (List.mem_of_getElem? (i := 9) rfl)
theorem wq_8_10 : Cond.static yX9_put ∈ wsL_law := wr_8 _ (List.mem_of_getElem? (i := 10) rfl)
theorem wq_8_11 : Cond.code yX9_put cX9_put 3 none ∈ wsL_law := wr_8 _ (List.mem_of_getElem? (i := 11) rfl)
theorem wq_8_12 : Cond.methodLink RL 17 yX10_feed ∈ wsL_law := wr_8 _ (List.mem_of_getElem? (i := 12) rfl)
theorem wq_8_13 : Cond.instanceMethod yX10_feed ∈ wsL_law := wr_8 _ (List.mem_of_getElem? (i := 13) rfl)
theorem wq_8_14 : Cond.selects RX10 yX10_feed yX10_feed ∈ wsL_law := wr_8 _ (List.mem_of_getElem? (i := 14) rfl)
theorem wq_8_15 : Cond.code yX10_feed cX10_feed 7 (some .int) ∈ wsL_law := wr_8 _ (List.mem_of_getElem? (i := 15) rfl)
theorem wq_8_16 : Cond.fieldLink RX10 98 "QuotedRiverModel" "taped" "I" ∈ wsL_law := wr_8 _ (List.mem_of_getElem? (i := 16) rfl)
theorem wq_8_17 : Cond.methodLink RL 18 yX9_end ∈ wsL_law := wr_8 _ (List.mem_of_getElem? (i := 17) rfl)
theorem wq_8_18 : Cond.instanceMethod yX9_end ∈ wsL_law := wr_8 _ (List.mem_of_getElem? (i := 18) rfl)
theorem wq_8_19 : Cond.selects RX9 yX9_end yX9_end ∈ wsL_law := wr_8 _ (List.mem_of_getElem? (i := 19) rfl)
theorem wq_8_20 : Cond.code yX9_end cX9_end 2 (some .int) ∈ wsL_law := wr_8 _ (List.mem_of_getElem? (i := 20) rfl)
theorem wq_8_21 : Cond.methodLink RL 22 yX10_end ∈ wsL_law := wr_8 _ (List.mem_of_getElem? (i := 21) rfl)
theorem wq_8_22 : Cond.instanceMethod yX10_end ∈ wsL_law := wr_8 _ (List.mem_of_getElem? (i := 22) rfl)
theorem wq_8_23 : Cond.selects RX10 yX10_end yX10_end ∈ wsL_law := wr_8 _ (List.mem_of_getElem? (i := 23) rfl)
theorem wq_9_0 : Cond.code yX10_end cX10_end 2 (some .int) ∈ wsL_law := wr_9 _ (List.mem_of_getElem? (i := 0) rfl)
theorem wq_9_1 : Cond.methodLink RX10 92 yX10_in ∈ wsL_law := wr_9 _ (List.mem_of_getElem? (i := 1) rfl)
theorem wq_9_2 : Cond.static yX10_in ∈ wsL_law := wr_9 _ (List.mem_of_getElem? (i := 2) rfl)
theorem wq_9_3 : Cond.code yX10_in cX10_in 6 (some .boolean) ∈ wsL_law := wr_9 _ (List.mem_of_getElem? (i := 3) rfl)
theorem wq_9_4 : Cond.methodLink RL 23 yX9_rivers ∈ wsL_law := wr_9 _ (List.mem_of_getElem? (i := 4) rfl)
theorem wq_9_5 : Cond.instanceMethod yX9_rivers ∈ wsL_law := wr_9 _ (List.mem_of_getElem? (i := 5) rfl)
theorem wq_9_6 : Cond.selects RX9 yX9_rivers yX9_rivers ∈ wsL_law := wr_9 _ (List.mem_of_getElem? (i := 6) rfl)
theorem wq_9_7 : Cond.code yX9_rivers cX9_rivers 1 (some .int) ∈ wsL_law := wr_9 _ (List.mem_of_getElem? (i := 7) rfl)
theorem wq_9_8 : Cond.instanceMethod yX1_read ∈ wsL_law := wr_9 _ (List.mem_of_getElem? (i := 8) rfl)
theorem wq_9_9 : Cond.selects RX1 yX1_read yX1_read ∈ wsL_law := wr_9 _ (List.mem_of_getElem? (i := 9) rfl)
theorem wq_9_10 : Cond.code yX1_read cX1_read 3 none ∈ wsL_law := wr_9 _ (List.mem_of_getElem? (i := 10) rfl)
theorem wq_9_11 : Cond.instanceMethod yX7_scan ∈ wsL_law := wr_9 _ (List.mem_of_getElem? (i := 11) rfl)
theorem wq_9_12 : Cond.selects RX7 yX7_scan yX7_scan ∈ wsL_law := wr_9 _ (List.mem_of_getElem? (i := 12) rfl)
theorem wq_9_13 : Cond.code yX7_scan cX7_scan 4 none ∈ wsL_law := wr_9 _ (List.mem_of_getElem? (i := 13) rfl)
theorem wq_9_14 : Cond.instanceMethod yX6_byteAt ∈ wsL_law := wr_9 _ (List.mem_of_getElem? (i := 14) rfl)
theorem wq_9_15 : Cond.selects RX6 yX6_byteAt yX6_byteAt ∈ wsL_law := wr_9 _ (List.mem_of_getElem? (i := 15) rfl)
theorem wq_9_16 : Cond.code yX6_byteAt cX6_byteAt 2 (some .int) ∈ wsL_law := wr_9 _ (List.mem_of_getElem? (i := 16) rfl)
theorem wq_9_17 : Cond.methodLink RX7 32 yX7_isBlank ∈ wsL_law := wr_9 _ (List.mem_of_getElem? (i := 17) rfl)
theorem wq_9_18 : Cond.static yX7_isBlank ∈ wsL_law := wr_9 _ (List.mem_of_getElem? (i := 18) rfl)
theorem wq_9_19 : Cond.code yX7_isBlank cX7_isBlank 1 (some .boolean) ∈ wsL_law := wr_9 _ (List.mem_of_getElem? (i := 19) rfl)
theorem wq_9_20 : Cond.methodLink RX7 36 yX7_scanToken ∈ wsL_law := wr_9 _ (List.mem_of_getElem? (i := 20) rfl)
theorem wq_9_21 : Cond.instanceMethod yX7_scanToken ∈ wsL_law := wr_9 _ (List.mem_of_getElem? (i := 21) rfl)
theorem wq_9_22 : Cond.selects RX7 yX7_scanToken yX7_scanToken ∈ wsL_law := wr_9 _ (List.mem_of_getElem? (i := 22) rfl)
theorem wq_9_23 : Cond.code yX7_scanToken cX7_scanToken 4 (some .int) ∈ wsL_law := wr_9 _ (List.mem_of_getElem? (i := 23) rfl)
theorem wq_10_0 : Cond.methodLink RX7 44 yX7_isLetter ∈ wsL_law := wr_10 _ (List.mem_of_getElem? (i := 0) rfl)
theorem wq_10_1 : Cond.static yX7_isLetter ∈ wsL_law := wr_10 _ (List.mem_of_getElem? (i := 1) rfl)
theorem wq_10_2 : Cond.code yX7_isLetter cX7_isLetter 1 (some .boolean) ∈ wsL_law := wr_10 _ (List.mem_of_getElem? (i := 2) rfl)
theorem wq_10_3 : Cond.methodLink RX7 47 yX7_wordKind ∈ wsL_law := wr_10 _ (List.mem_of_getElem? (i := 3) rfl)
theorem wq_10_4 : Cond.static yX7_wordKind ∈ wsL_law := wr_10 _ (List.mem_of_getElem? (i := 4) rfl)
theorem wq_10_5 : Cond.code yX7_wordKind cX7_wordKind 3 (some .int) ∈ wsL_law := wr_10 _ (List.mem_of_getElem? (i := 5) rfl)
theorem wq_10_6 : Cond.instanceMethod yX6_says ∈ wsL_law := wr_10 _ (List.mem_of_getElem? (i := 6) rfl)
theorem wq_10_7 : Cond.selects RX6 yX6_says yX6_says ∈ wsL_law := wr_10 _ (List.mem_of_getElem? (i := 7) rfl)
theorem wq_10_8 : Cond.code yX6_says cX6_says 4 (some .boolean) ∈ wsL_law := wr_10 _ (List.mem_of_getElem? (i := 8) rfl)
theorem wq_10_9 : Cond.methodLink RX6 23 yJ0_length_8abf5 ∈ wsL_law := wr_10 _ (List.mem_of_getElem? (i := 9) rfl)
theorem wq_10_10 : Cond.instanceMethod yJ0_length_8abf5 ∈ wsL_law := wr_10 _ (List.mem_of_getElem? (i := 10) rfl)
theorem wq_10_11 : Cond.selects RJ0 yJ0_length_8abf5 yJ0_length_8abf5 ∈ wsL_law := wr_10 _ (List.mem_of_getElem? (i := 11) rfl)
theorem wq_10_12 : Cond.initialized RJ0 ∈ wsL_law := wr_10 _ (List.mem_of_getElem? (i := 12) rfl)
theorem wq_10_13 : Cond.code yJ0_length_8abf5 cJ0_length_8abf5 1 (some .int) ∈ wsL_law := wr_10 _ (List.mem_of_getElem? (i := 13) rfl)
theorem wq_10_14 : Cond.fieldLink RJ0 9 "java/lang/String" "value" "[B" ∈ wsL_law := wr_10 _ (List.mem_of_getElem? (i := 14) rfl)
theorem wq_10_15 : Cond.methodLink RJ0 335 yJ0_coder_7d493 ∈ wsL_law := wr_10 _ (List.mem_of_getElem? (i := 15) rfl)
theorem wq_10_16 : Cond.instanceMethod yJ0_coder_7d493 ∈ wsL_law := wr_10 _ (List.mem_of_getElem? (i := 16) rfl)
theorem wq_10_17 : Cond.selects RJ0 yJ0_coder_7d493 yJ0_coder_7d493 ∈ wsL_law := wr_10 _ (List.mem_of_getElem? (i := 17) rfl)
theorem wq_10_18 : Cond.code yJ0_coder_7d493 cJ0_coder_7d493 1 (some .byte) ∈ wsL_law := wr_10 _ (List.mem_of_getElem? (i := 18) rfl)
theorem wq_10_19 : Cond.fieldLink RJ0 38 "java/lang/String" "COMPACT_STRINGS" "Z" ∈ wsL_law := wr_10 _ (List.mem_of_getElem? (i := 19) rfl)
theorem wq_10_20 : Cond.fieldLink RJ0 15 "java/lang/String" "coder" "B" ∈ wsL_law := wr_10 _ (List.mem_of_getElem? (i := 20) rfl)
theorem wq_10_21 : Cond.methodLink RX6 29 yX6_byteAt ∈ wsL_law := wr_10 _ (List.mem_of_getElem? (i := 21) rfl)
theorem wq_10_22 : Cond.methodLink RX6 33 yJ0_charAt_5068e ∈ wsL_law := wr_10 _ (List.mem_of_getElem? (i := 22) rfl)
theorem wq_10_23 : Cond.instanceMethod yJ0_charAt_5068e ∈ wsL_law := wr_10 _ (List.mem_of_getElem? (i := 23) rfl)
theorem wq_11_0 : Cond.selects RJ0 yJ0_charAt_5068e yJ0_charAt_5068e ∈ wsL_law := wr_11 _ (List.mem_of_getElem? (i := 0) rfl)
theorem wq_11_1 : Cond.code yJ0_charAt_5068e cJ0_charAt_5068e 2 (some .char) ∈ wsL_law := wr_11 _ (List.mem_of_getElem? (i := 1) rfl)
theorem wq_11_2 : Cond.methodLink RJ0 492 yJ0_isLatin1_aae02 ∈ wsL_law := wr_11 _ (List.mem_of_getElem? (i := 2) rfl)
theorem wq_11_3 : Cond.instanceMethod yJ0_isLatin1_aae02 ∈ wsL_law := wr_11 _ (List.mem_of_getElem? (i := 3) rfl)
theorem wq_11_4 : Cond.selects RJ0 yJ0_isLatin1_aae02 yJ0_isLatin1_aae02 ∈ wsL_law := wr_11 _ (List.mem_of_getElem? (i := 4) rfl)
theorem wq_11_5 : Cond.code yJ0_isLatin1_aae02 cJ0_isLatin1_aae02 1 (some .boolean) ∈ wsL_law := wr_11 _ (List.mem_of_getElem? (i := 5) rfl)
theorem wq_11_6 : Cond.methodLink RJ0 495 yJ1_charAt_3b067 ∈ wsL_law := wr_11 _ (List.mem_of_getElem? (i := 6) rfl)
theorem wq_11_7 : Cond.static yJ1_charAt_3b067 ∈ wsL_law := wr_11 _ (List.mem_of_getElem? (i := 7) rfl)
theorem wq_11_8 : Cond.initialized RJ1 ∈ wsL_law := wr_11 _ (List.mem_of_getElem? (i := 8) rfl)
theorem wq_11_9 : Cond.code yJ1_charAt_3b067 cJ1_charAt_3b067 2 (some .char) ∈ wsL_law := wr_11 _ (List.mem_of_getElem? (i := 9) rfl)
theorem wq_11_10 : Cond.methodLink RJ1 9 yJ0_checkIndex_df160 ∈ wsL_law := wr_11 _ (List.mem_of_getElem? (i := 10) rfl)
theorem wq_11_11 : Cond.static yJ0_checkIndex_df160 ∈ wsL_law := wr_11 _ (List.mem_of_getElem? (i := 11) rfl)
theorem wq_11_12 : Cond.code yJ0_checkIndex_df160 cJ0_checkIndex_df160 2 none ∈ wsL_law := wr_11 _ (List.mem_of_getElem? (i := 12) rfl)
theorem wq_11_13 : Cond.fieldLink RJ0 1053 "jdk/internal/util/Preconditions" "SIOOBE_FORMATTER" "Ljava/util/function/BiFunction;" ∈ wsL_law := wr_11 _ (List.mem_of_getElem? (i := 13) rfl)
theorem wq_11_14 : Cond.methodLink RJ0 1059 yJ3_checkIndex_8e157 ∈ wsL_law := wr_11 _ (List.mem_of_getElem? (i := 14) rfl)
theorem wq_11_15 : Cond.static yJ3_checkIndex_8e157 ∈ wsL_law := wr_11 _ (List.mem_of_getElem? (i := 15) rfl)
theorem wq_11_16 : Cond.initialized RJ3 ∈ wsL_law := wr_11 _ (List.mem_of_getElem? (i := 16) rfl)
theorem wq_11_17 : Cond.code yJ3_checkIndex_8e157 cJ3_checkIndex_8e157 3 (some .int) ∈ wsL_law := wr_11 _ (List.mem_of_getElem? (i := 17) rfl)
theorem wq_11_18 : Cond.methodLink RJ0 498 yJ2_charAt_3b067 ∈ wsL_law := wr_11 _ (List.mem_of_getElem? (i := 18) rfl)
theorem wq_11_19 : Cond.static yJ2_charAt_3b067 ∈ wsL_law := wr_11 _ (List.mem_of_getElem? (i := 19) rfl)
theorem wq_11_20 : Cond.initialized RJ2 ∈ wsL_law := wr_11 _ (List.mem_of_getElem? (i := 20) rfl)
theorem wq_11_21 : Cond.code yJ2_charAt_3b067 cJ2_charAt_3b067 2 (some .char) ∈ wsL_law := wr_11 _ (List.mem_of_getElem? (i := 21) rfl)
theorem wq_11_22 : Cond.methodLink RJ2 67 yJ2_checkIndex_2214a ∈ wsL_law := wr_11 _ (List.mem_of_getElem? (i := 22) rfl)
theorem wq_11_23 : Cond.static yJ2_checkIndex_2214a ∈ wsL_law := wr_11 _ (List.mem_of_getElem? (i := 23) rfl)
theorem wq_12_0 : Cond.code yJ2_checkIndex_2214a cJ2_checkIndex_2214a 2 none ∈ wsL_law := wr_12 _ (List.mem_of_getElem? (i := 0) rfl)
theorem wq_12_1 : Cond.methodLink RJ2 48 yJ2_length_9d52b ∈ wsL_law := wr_12 _ (List.mem_of_getElem? (i := 1) rfl)
theorem wq_12_2 : Cond.static yJ2_length_9d52b ∈ wsL_law := wr_12 _ (List.mem_of_getElem? (i := 2) rfl)
theorem wq_12_3 : Cond.code yJ2_length_9d52b cJ2_length_9d52b 1 (some .int) ∈ wsL_law := wr_12 _ (List.mem_of_getElem? (i := 3) rfl)
theorem wq_12_4 : Cond.methodLink RJ2 414 yJ0_checkIndex_df160 ∈ wsL_law := wr_12 _ (List.mem_of_getElem? (i := 4) rfl)
theorem wq_12_5 : Cond.methodLink RJ2 71 yJ2_getChar_3b067 ∈ wsL_law := wr_12 _ (List.mem_of_getElem? (i := 5) rfl)
theorem wq_12_6 : Cond.static yJ2_getChar_3b067 ∈ wsL_law := wr_12 _ (List.mem_of_getElem? (i := 6) rfl)
theorem wq_12_7 : Cond.code yJ2_getChar_3b067 cJ2_getChar_3b067 2 (some .char) ∈ wsL_law := wr_12 _ (List.mem_of_getElem? (i := 7) rfl)
theorem wq_12_8 : Cond.fieldLink RJ2 44 "java/lang/StringUTF16" "$assertionsDisabled" "Z" ∈ wsL_law := wr_12 _ (List.mem_of_getElem? (i := 8) rfl)
theorem wq_12_9 : Cond.fieldLink RJ2 59 "java/lang/StringUTF16" "HI_BYTE_SHIFT" "I" ∈ wsL_law := wr_12 _ (List.mem_of_getElem? (i := 9) rfl)
theorem wq_12_10 : Cond.fieldLink RJ2 63 "java/lang/StringUTF16" "LO_BYTE_SHIFT" "I" ∈ wsL_law := wr_12 _ (List.mem_of_getElem? (i := 10) rfl)
theorem wq_12_11 : Cond.methodLink RX7 40 yX7_add ∈ wsL_law := wr_12 _ (List.mem_of_getElem? (i := 11) rfl)
theorem wq_12_12 : Cond.instanceMethod yX7_add ∈ wsL_law := wr_12 _ (List.mem_of_getElem? (i := 12) rfl)
theorem wq_12_13 : Cond.selects RX7 yX7_add yX7_add ∈ wsL_law := wr_12 _ (List.mem_of_getElem? (i := 13) rfl)
theorem wq_12_14 : Cond.code yX7_add cX7_add 4 none ∈ wsL_law := wr_12 _ (List.mem_of_getElem? (i := 14) rfl)
theorem wq_12_15 : Cond.methodLink RX7 51 yX7_isDigit ∈ wsL_law := wr_12 _ (List.mem_of_getElem? (i := 15) rfl)
theorem wq_12_16 : Cond.static yX7_isDigit ∈ wsL_law := wr_12 _ (List.mem_of_getElem? (i := 16) rfl)
theorem wq_12_17 : Cond.code yX7_isDigit cX7_isDigit 1 (some .boolean) ∈ wsL_law := wr_12 _ (List.mem_of_getElem? (i := 17) rfl)
theorem wq_12_18 : Cond.methodLink RX7 54 yX7_valueOf ∈ wsL_law := wr_12 _ (List.mem_of_getElem? (i := 18) rfl)
theorem wq_12_19 : Cond.static yX7_valueOf ∈ wsL_law := wr_12 _ (List.mem_of_getElem? (i := 19) rfl)
theorem wq_12_20 : Cond.code yX7_valueOf cX7_valueOf 5 (some .int) ∈ wsL_law := wr_12 _ (List.mem_of_getElem? (i := 20) rfl)
theorem wq_12_21 : Cond.methodLink RX7 61 Lib.Math.min.name ∈ wsL_law := wr_12 _ (List.mem_of_getElem? (i := 21) rfl)
theorem wq_12_22 : Cond.static Lib.Math.min.name ∈ wsL_law := wr_12 _ (List.mem_of_getElem? (i := 22) rfl)
theorem wq_12_23 : Cond.initialized "java/lang/Math" ∈ wsL_law := wr_12 _ (List.mem_of_getElem? (i := 23) rfl)
theorem wq_13_0 : Cond.code Lib.Math.min.name Lib.Math.min.code 2 (some .int) ∈ wsL_law := wr_13 _ (List.mem_of_getElem? (i := 0) rfl)
theorem wq_13_1 : Cond.instanceMethod yX2_clear ∈ wsL_law := wr_13 _ (List.mem_of_getElem? (i := 1) rfl)
theorem wq_13_2 : Cond.selects RX2 yX2_clear yX2_clear ∈ wsL_law := wr_13 _ (List.mem_of_getElem? (i := 2) rfl)
theorem wq_13_3 : Cond.code yX2_clear cX2_clear 1 none ∈ wsL_law := wr_13 _ (List.mem_of_getElem? (i := 3) rfl)
theorem wq_13_4 : Cond.static yX9_pick ∈ wsL_law := wr_13 _ (List.mem_of_getElem? (i := 4) rfl)
theorem wq_13_5 : Cond.code yX9_pick cX9_pick 2 (some .int) ∈ wsL_law := wr_13 _ (List.mem_of_getElem? (i := 5) rfl)
theorem wq_13_6 : Cond.methodLink RX1 53 yX1_readRivers ∈ wsL_law := wr_13 _ (List.mem_of_getElem? (i := 6) rfl)
theorem wq_13_7 : Cond.instanceMethod yX1_readRivers ∈ wsL_law := wr_13 _ (List.mem_of_getElem? (i := 7) rfl)
theorem wq_13_8 : Cond.selects RX1 yX1_readRivers yX1_readRivers ∈ wsL_law := wr_13 _ (List.mem_of_getElem? (i := 8) rfl)
theorem wq_13_9 : Cond.code yX1_readRivers cX1_readRivers 1 none ∈ wsL_law := wr_13 _ (List.mem_of_getElem? (i := 9) rfl)
theorem wq_13_10 : Cond.methodLink RX1 69 yX1_take ∈ wsL_law := wr_13 _ (List.mem_of_getElem? (i := 10) rfl)
theorem wq_13_11 : Cond.instanceMethod yX1_take ∈ wsL_law := wr_13 _ (List.mem_of_getElem? (i := 11) rfl)
theorem wq_13_12 : Cond.selects RX1 yX1_take yX1_take ∈ wsL_law := wr_13 _ (List.mem_of_getElem? (i := 12) rfl)
theorem wq_13_13 : Cond.code yX1_take cX1_take 2 none ∈ wsL_law := wr_13 _ (List.mem_of_getElem? (i := 13) rfl)
theorem wq_13_14 : Cond.methodLink RX1 65 yX1_blame ∈ wsL_law := wr_13 _ (List.mem_of_getElem? (i := 14) rfl)
theorem wq_13_15 : Cond.instanceMethod yX1_blame ∈ wsL_law := wr_13 _ (List.mem_of_getElem? (i := 15) rfl)
theorem wq_13_16 : Cond.selects RX1 yX1_blame yX1_blame ∈ wsL_law := wr_13 _ (List.mem_of_getElem? (i := 16) rfl)
theorem wq_13_17 : Cond.code yX1_blame cX1_blame 2 none ∈ wsL_law := wr_13 _ (List.mem_of_getElem? (i := 17) rfl)
theorem wq_13_18 : Cond.methodLink RX1 82 yX1_takeNumber ∈ wsL_law := wr_13 _ (List.mem_of_getElem? (i := 18) rfl)
theorem wq_13_19 : Cond.instanceMethod yX1_takeNumber ∈ wsL_law := wr_13 _ (List.mem_of_getElem? (i := 19) rfl)
theorem wq_13_20 : Cond.selects RX1 yX1_takeNumber yX1_takeNumber ∈ wsL_law := wr_13 _ (List.mem_of_getElem? (i := 20) rfl)
theorem wq_13_21 : Cond.code yX1_takeNumber cX1_takeNumber 4 (some .int) ∈ wsL_law := wr_13 _ (List.mem_of_getElem? (i := 21) rfl)
theorem wq_13_22 : Cond.methodLink RX1 109 yX1_takeValue ∈ wsL_law := wr_13 _ (List.mem_of_getElem? (i := 22) rfl)
theorem wq_13_23 : Cond.instanceMethod yX1_takeValue ∈ wsL_law := wr_13 _ (List.mem_of_getElem? (i := 23) rfl)
theorem wq_14_0 : Cond.selects RX1 yX1_takeValue yX1_takeValue ∈ wsL_law := wr_14 _ (List.mem_of_getElem? (i := 0) rfl)
theorem wq_14_1 : Cond.code yX1_takeValue cX1_takeValue 4 (some .int) ∈ wsL_law := wr_14 _ (List.mem_of_getElem? (i := 1) rfl)
theorem wq_14_2 : Cond.methodLink RX1 56 yX1_readReach ∈ wsL_law := wr_14 _ (List.mem_of_getElem? (i := 2) rfl)
theorem wq_14_3 : Cond.instanceMethod yX1_readReach ∈ wsL_law := wr_14 _ (List.mem_of_getElem? (i := 3) rfl)
theorem wq_14_4 : Cond.selects RX1 yX1_readReach yX1_readReach ∈ wsL_law := wr_14 _ (List.mem_of_getElem? (i := 4) rfl)
theorem wq_14_5 : Cond.code yX1_readReach cX1_readReach 2 none ∈ wsL_law := wr_14 _ (List.mem_of_getElem? (i := 5) rfl)
theorem wq_14_6 : Cond.methodLink RX1 98 yX1_claim ∈ wsL_law := wr_14 _ (List.mem_of_getElem? (i := 6) rfl)
theorem wq_14_7 : Cond.instanceMethod yX1_claim ∈ wsL_law := wr_14 _ (List.mem_of_getElem? (i := 7) rfl)
theorem wq_14_8 : Cond.selects RX1 yX1_claim yX1_claim ∈ wsL_law := wr_14 _ (List.mem_of_getElem? (i := 8) rfl)
theorem wq_14_9 : Cond.code yX1_claim cX1_claim 3 (some .int) ∈ wsL_law := wr_14 _ (List.mem_of_getElem? (i := 9) rfl)
theorem wq_14_10 : Cond.methodLink RX1 142 Lib.Math.min.name ∈ wsL_law := wr_14 _ (List.mem_of_getElem? (i := 10) rfl)
theorem wq_14_11 : Cond.methodLink RX1 59 yX1_readJoin ∈ wsL_law := wr_14 _ (List.mem_of_getElem? (i := 11) rfl)
theorem wq_14_12 : Cond.instanceMethod yX1_readJoin ∈ wsL_law := wr_14 _ (List.mem_of_getElem? (i := 12) rfl)
theorem wq_14_13 : Cond.selects RX1 yX1_readJoin yX1_readJoin ∈ wsL_law := wr_14 _ (List.mem_of_getElem? (i := 13) rfl)
theorem wq_14_14 : Cond.code yX1_readJoin cX1_readJoin 3 none ∈ wsL_law := wr_14 _ (List.mem_of_getElem? (i := 14) rfl)
theorem wq_14_15 : Cond.methodLink RX1 62 yX1_readRain ∈ wsL_law := wr_14 _ (List.mem_of_getElem? (i := 15) rfl)
theorem wq_14_16 : Cond.instanceMethod yX1_readRain ∈ wsL_law := wr_14 _ (List.mem_of_getElem? (i := 16) rfl)
theorem wq_14_17 : Cond.selects RX1 yX1_readRain yX1_readRain ∈ wsL_law := wr_14 _ (List.mem_of_getElem? (i := 17) rfl)
theorem wq_14_18 : Cond.code yX1_readRain cX1_readRain 2 none ∈ wsL_law := wr_14 _ (List.mem_of_getElem? (i := 18) rfl)
theorem wq_14_19 : Cond.instanceMethod yX2_sendToSea ∈ wsL_law := wr_14 _ (List.mem_of_getElem? (i := 19) rfl)
theorem wq_14_20 : Cond.selects RX2 yX2_sendToSea yX2_sendToSea ∈ wsL_law := wr_14 _ (List.mem_of_getElem? (i := 20) rfl)
theorem wq_14_21 : Cond.code yX2_sendToSea cX2_sendToSea 2 none ∈ wsL_law := wr_14 _ (List.mem_of_getElem? (i := 21) rfl)
theorem wq_14_22 : Cond.instanceMethod yX2_become ∈ wsL_law := wr_14 _ (List.mem_of_getElem? (i := 22) rfl)
theorem wq_14_23 : Cond.selects RX2 yX2_become yX2_become ∈ wsL_law := wr_14 _ (List.mem_of_getElem? (i := 23) rfl)
theorem wq_15_0 : Cond.code yX2_become cX2_become 2 none ∈ wsL_law := wr_15 _ (List.mem_of_getElem? (i := 0) rfl)
theorem wq_15_1 : Cond.static yX9_copy ∈ wsL_law := wr_15 _ (List.mem_of_getElem? (i := 1) rfl)
theorem wq_15_2 : Cond.code yX9_copy cX9_copy 3 none ∈ wsL_law := wr_15 _ (List.mem_of_getElem? (i := 2) rfl)
theorem wq_15_3 : Cond.instanceMethod yX8_settle ∈ wsL_law := wr_15 _ (List.mem_of_getElem? (i := 3) rfl)
theorem wq_15_4 : Cond.selects RX8 yX8_settle yX8_settle ∈ wsL_law := wr_15 _ (List.mem_of_getElem? (i := 4) rfl)
theorem wq_15_5 : Cond.code yX8_settle cX8_settle 3 none ∈ wsL_law := wr_15 _ (List.mem_of_getElem? (i := 5) rfl)
theorem wq_15_6 : Cond.methodLink RX8 44 yX8_addRain ∈ wsL_law := wr_15 _ (List.mem_of_getElem? (i := 6) rfl)
theorem wq_15_7 : Cond.instanceMethod yX8_addRain ∈ wsL_law := wr_15 _ (List.mem_of_getElem? (i := 7) rfl)
theorem wq_15_8 : Cond.selects RX8 yX8_addRain yX8_addRain ∈ wsL_law := wr_15 _ (List.mem_of_getElem? (i := 8) rfl)
theorem wq_15_9 : Cond.code yX8_addRain cX8_addRain 3 none ∈ wsL_law := wr_15 _ (List.mem_of_getElem? (i := 9) rfl)
theorem wq_15_10 : Cond.methodLink RX8 60 yX8_redo ∈ wsL_law := wr_15 _ (List.mem_of_getElem? (i := 10) rfl)
theorem wq_15_11 : Cond.instanceMethod yX8_redo ∈ wsL_law := wr_15 _ (List.mem_of_getElem? (i := 11) rfl)
theorem wq_15_12 : Cond.selects RX8 yX8_redo yX8_redo ∈ wsL_law := wr_15 _ (List.mem_of_getElem? (i := 12) rfl)
theorem wq_15_13 : Cond.code yX8_redo cX8_redo 4 none ∈ wsL_law := wr_15 _ (List.mem_of_getElem? (i := 13) rfl)
theorem wq_15_14 : Cond.static yX9_bit ∈ wsL_law := wr_15 _ (List.mem_of_getElem? (i := 14) rfl)
theorem wq_15_15 : Cond.code yX9_bit cX9_bit 1 (some .int) ∈ wsL_law := wr_15 _ (List.mem_of_getElem? (i := 15) rfl)
theorem wq_15_16 : Cond.methodLink RX8 67 yX8_fall ∈ wsL_law := wr_15 _ (List.mem_of_getElem? (i := 16) rfl)
theorem wq_15_17 : Cond.instanceMethod yX8_fall ∈ wsL_law := wr_15 _ (List.mem_of_getElem? (i := 17) rfl)
theorem wq_15_18 : Cond.selects RX8 yX8_fall yX8_fall ∈ wsL_law := wr_15 _ (List.mem_of_getElem? (i := 18) rfl)
theorem wq_15_19 : Cond.code yX8_fall cX8_fall 4 none ∈ wsL_law := wr_15 _ (List.mem_of_getElem? (i := 19) rfl)
theorem wq_15_20 : Cond.methodLink RX8 78 Lib.Math.max.name ∈ wsL_law := wr_15 _ (List.mem_of_getElem? (i := 20) rfl)
theorem wq_15_21 : Cond.static Lib.Math.max.name ∈ wsL_law := wr_15 _ (List.mem_of_getElem? (i := 21) rfl)
theorem wq_15_22 : Cond.code Lib.Math.max.name Lib.Math.max.code 2 (some .int) ∈ wsL_law := wr_15 _ (List.mem_of_getElem? (i := 22) rfl)
theorem wq_15_23 : Cond.methodLink RX8 75 yX8_rainAt ∈ wsL_law := wr_15 _ (List.mem_of_getElem? (i := 23) rfl)
theorem wq_16_0 : Cond.instanceMethod yX8_rainAt ∈ wsL_law := wr_16 _ (List.mem_of_getElem? (i := 0) rfl)
theorem wq_16_1 : Cond.selects RX8 yX8_rainAt yX8_rainAt ∈ wsL_law := wr_16 _ (List.mem_of_getElem? (i := 1) rfl)
theorem wq_16_2 : Cond.code yX8_rainAt cX8_rainAt 2 (some .int) ∈ wsL_law := wr_16 _ (List.mem_of_getElem? (i := 2) rfl)
theorem wq_16_3 : Cond.instanceMethod yX2_lines ∈ wsL_law := wr_16 _ (List.mem_of_getElem? (i := 3) rfl)
theorem wq_16_4 : Cond.selects RX2 yX2_lines yX2_lines ∈ wsL_law := wr_16 _ (List.mem_of_getElem? (i := 4) rfl)
theorem wq_16_5 : Cond.code yX2_lines cX2_lines 1 (some .int) ∈ wsL_law := wr_16 _ (List.mem_of_getElem? (i := 5) rfl)
theorem wq_16_6 : Cond.methodLink RL 27 yX10_rivers ∈ wsL_law := wr_16 _ (List.mem_of_getElem? (i := 6) rfl)
theorem wq_16_7 : Cond.instanceMethod yX10_rivers ∈ wsL_law := wr_16 _ (List.mem_of_getElem? (i := 7) rfl)
theorem wq_16_8 : Cond.selects RX10 yX10_rivers yX10_rivers ∈ wsL_law := wr_16 _ (List.mem_of_getElem? (i := 8) rfl)
theorem wq_16_9 : Cond.code yX10_rivers cX10_rivers 2 (some .int) ∈ wsL_law := wr_16 _ (List.mem_of_getElem? (i := 9) rfl)
theorem wq_16_10 : Cond.fieldLink RX10 101 "QuotedRiverModel" "size" "I" ∈ wsL_law := wr_16 _ (List.mem_of_getElem? (i := 10) rfl)
theorem wq_16_11 : Cond.fieldLink RX10 104 "QuotedRiverModel" "at" "I" ∈ wsL_law := wr_16 _ (List.mem_of_getElem? (i := 11) rfl)
theorem wq_16_12 : Cond.fieldLink RX10 135 "QuotedRiverModel" "faultKind" "I" ∈ wsL_law := wr_16 _ (List.mem_of_getElem? (i := 12) rfl)
theorem wq_16_13 : Cond.fieldLink RX10 114 "QuotedRiverModel" "token" "I" ∈ wsL_law := wr_16 _ (List.mem_of_getElem? (i := 13) rfl)
theorem wq_16_14 : Cond.methodLink RX10 156 yX10_advance ∈ wsL_law := wr_16 _ (List.mem_of_getElem? (i := 14) rfl)
theorem wq_16_15 : Cond.instanceMethod yX10_advance ∈ wsL_law := wr_16 _ (List.mem_of_getElem? (i := 15) rfl)
theorem wq_16_16 : Cond.selects RX10 yX10_advance yX10_advance ∈ wsL_law := wr_16 _ (List.mem_of_getElem? (i := 16) rfl)
theorem wq_16_17 : Cond.code yX10_advance cX10_advance 2 none ∈ wsL_law := wr_16 _ (List.mem_of_getElem? (i := 17) rfl)
theorem wq_16_18 : Cond.fieldLink RX10 111 "QuotedRiverModel" "from" "I" ∈ wsL_law := wr_16 _ (List.mem_of_getElem? (i := 18) rfl)
theorem wq_16_19 : Cond.constantLong RX10 117 (97) ∈ wsL_law := wr_16 _ (List.mem_of_getElem? (i := 19) rfl)
theorem wq_16_20 : Cond.constantLong RX10 119 (122) ∈ wsL_law := wr_16 _ (List.mem_of_getElem? (i := 20) rfl)
theorem wq_16_21 : Cond.constantLong RX10 121 (48) ∈ wsL_law := wr_16 _ (List.mem_of_getElem? (i := 21) rfl)
theorem wq_16_22 : Cond.constantLong RX10 123 (57) ∈ wsL_law := wr_16 _ (List.mem_of_getElem? (i := 22) rfl)
theorem wq_16_23 : Cond.fieldLink RX10 125 "QuotedRiverModel" "value" "I" ∈ wsL_law := wr_16 _ (List.mem_of_getElem? (i := 23) rfl)
theorem wq_17_0 : Cond.constant RX10 128 (99999) ∈ wsL_law := wr_17 _ (List.mem_of_getElem? (i := 0) rfl)
theorem wq_17_1 : Cond.methodLink RX10 129 Lib.Math.min.name ∈ wsL_law := wr_17 _ (List.mem_of_getElem? (i := 1) rfl)
theorem wq_17_2 : Cond.methodLink RX10 107 yX10_see ∈ wsL_law := wr_17 _ (List.mem_of_getElem? (i := 2) rfl)
theorem wq_17_3 : Cond.instanceMethod yX10_see ∈ wsL_law := wr_17 _ (List.mem_of_getElem? (i := 3) rfl)
theorem wq_17_4 : Cond.selects RX10 yX10_see yX10_see ∈ wsL_law := wr_17 _ (List.mem_of_getElem? (i := 4) rfl)
theorem wq_17_5 : Cond.code yX10_see cX10_see 2 (some .int) ∈ wsL_law := wr_17 _ (List.mem_of_getElem? (i := 5) rfl)
theorem wq_17_6 : Cond.methodLink RX10 138 yX10_good ∈ wsL_law := wr_17 _ (List.mem_of_getElem? (i := 6) rfl)
theorem wq_17_7 : Cond.instanceMethod yX10_good ∈ wsL_law := wr_17 _ (List.mem_of_getElem? (i := 7) rfl)
theorem wq_17_8 : Cond.selects RX10 yX10_good yX10_good ∈ wsL_law := wr_17 _ (List.mem_of_getElem? (i := 8) rfl)
theorem wq_17_9 : Cond.code yX10_good cX10_good 1 (some .boolean) ∈ wsL_law := wr_17 _ (List.mem_of_getElem? (i := 9) rfl)
theorem wq_17_10 : Cond.methodLink RX10 216 yX10_readLine ∈ wsL_law := wr_17 _ (List.mem_of_getElem? (i := 10) rfl)
theorem wq_17_11 : Cond.instanceMethod yX10_readLine ∈ wsL_law := wr_17 _ (List.mem_of_getElem? (i := 11) rfl)
theorem wq_17_12 : Cond.selects RX10 yX10_readLine yX10_readLine ∈ wsL_law := wr_17 _ (List.mem_of_getElem? (i := 12) rfl)
theorem wq_17_13 : Cond.code yX10_readLine cX10_readLine 1 none ∈ wsL_law := wr_17 _ (List.mem_of_getElem? (i := 13) rfl)
theorem wq_17_14 : Cond.methodLink RX10 210 yX10_readFirst ∈ wsL_law := wr_17 _ (List.mem_of_getElem? (i := 14) rfl)
theorem wq_17_15 : Cond.instanceMethod yX10_readFirst ∈ wsL_law := wr_17 _ (List.mem_of_getElem? (i := 15) rfl)
theorem wq_17_16 : Cond.selects RX10 yX10_readFirst yX10_readFirst ∈ wsL_law := wr_17 _ (List.mem_of_getElem? (i := 16) rfl)
theorem wq_17_17 : Cond.code yX10_readFirst cX10_readFirst 1 none ∈ wsL_law := wr_17 _ (List.mem_of_getElem? (i := 17) rfl)
theorem wq_17_18 : Cond.methodLink RX10 166 yX10_needs ∈ wsL_law := wr_17 _ (List.mem_of_getElem? (i := 18) rfl)
theorem wq_17_19 : Cond.instanceMethod yX10_needs ∈ wsL_law := wr_17 _ (List.mem_of_getElem? (i := 19) rfl)
theorem wq_17_20 : Cond.selects RX10 yX10_needs yX10_needs ∈ wsL_law := wr_17 _ (List.mem_of_getElem? (i := 20) rfl)
theorem wq_17_21 : Cond.code yX10_needs cX10_needs 2 none ∈ wsL_law := wr_17 _ (List.mem_of_getElem? (i := 21) rfl)
theorem wq_17_22 : Cond.methodLink RX10 159 yX10_takes ∈ wsL_law := wr_17 _ (List.mem_of_getElem? (i := 22) rfl)
theorem wq_17_23 : Cond.instanceMethod yX10_takes ∈ wsL_law := wr_17 _ (List.mem_of_getElem? (i := 23) rfl)
theorem wq_18_0 : Cond.selects RX10 yX10_takes yX10_takes ∈ wsL_law := wr_18 _ (List.mem_of_getElem? (i := 0) rfl)
theorem wq_18_1 : Cond.code yX10_takes cX10_takes 3 (some .boolean) ∈ wsL_law := wr_18 _ (List.mem_of_getElem? (i := 1) rfl)
theorem wq_18_2 : Cond.methodLink RX10 152 yX10_is ∈ wsL_law := wr_18 _ (List.mem_of_getElem? (i := 2) rfl)
theorem wq_18_3 : Cond.instanceMethod yX10_is ∈ wsL_law := wr_18 _ (List.mem_of_getElem? (i := 3) rfl)
theorem wq_18_4 : Cond.selects RX10 yX10_is yX10_is ∈ wsL_law := wr_18 _ (List.mem_of_getElem? (i := 4) rfl)
theorem wq_18_5 : Cond.code yX10_is cX10_is 4 (some .boolean) ∈ wsL_law := wr_18 _ (List.mem_of_getElem? (i := 5) rfl)
theorem wq_18_6 : Cond.methodLink RX10 142 yJ0_length_8abf5 ∈ wsL_law := wr_18 _ (List.mem_of_getElem? (i := 6) rfl)
theorem wq_18_7 : Cond.methodLink RX10 148 yJ0_charAt_5068e ∈ wsL_law := wr_18 _ (List.mem_of_getElem? (i := 7) rfl)
theorem wq_18_8 : Cond.methodLink RX10 162 yX10_errs ∈ wsL_law := wr_18 _ (List.mem_of_getElem? (i := 8) rfl)
theorem wq_18_9 : Cond.instanceMethod yX10_errs ∈ wsL_law := wr_18 _ (List.mem_of_getElem? (i := 9) rfl)
theorem wq_18_10 : Cond.selects RX10 yX10_errs yX10_errs ∈ wsL_law := wr_18 _ (List.mem_of_getElem? (i := 10) rfl)
theorem wq_18_11 : Cond.code yX10_errs cX10_errs 2 none ∈ wsL_law := wr_18 _ (List.mem_of_getElem? (i := 11) rfl)
theorem wq_18_12 : Cond.methodLink RX10 177 yX10_told ∈ wsL_law := wr_18 _ (List.mem_of_getElem? (i := 12) rfl)
theorem wq_18_13 : Cond.instanceMethod yX10_told ∈ wsL_law := wr_18 _ (List.mem_of_getElem? (i := 13) rfl)
theorem wq_18_14 : Cond.selects RX10 yX10_told yX10_told ∈ wsL_law := wr_18 _ (List.mem_of_getElem? (i := 14) rfl)
theorem wq_18_15 : Cond.code yX10_told cX10_told 4 (some .int) ∈ wsL_law := wr_18 _ (List.mem_of_getElem? (i := 15) rfl)
theorem wq_18_16 : Cond.methodLink RX10 170 yX10_number ∈ wsL_law := wr_18 _ (List.mem_of_getElem? (i := 16) rfl)
theorem wq_18_17 : Cond.instanceMethod yX10_number ∈ wsL_law := wr_18 _ (List.mem_of_getElem? (i := 17) rfl)
theorem wq_18_18 : Cond.selects RX10 yX10_number yX10_number ∈ wsL_law := wr_18 _ (List.mem_of_getElem? (i := 18) rfl)
theorem wq_18_19 : Cond.code yX10_number cX10_number 4 (some .int) ∈ wsL_law := wr_18 _ (List.mem_of_getElem? (i := 19) rfl)
theorem wq_18_20 : Cond.methodLink RX10 213 yX10_readNext ∈ wsL_law := wr_18 _ (List.mem_of_getElem? (i := 20) rfl)
theorem wq_18_21 : Cond.instanceMethod yX10_readNext ∈ wsL_law := wr_18 _ (List.mem_of_getElem? (i := 21) rfl)
theorem wq_18_22 : Cond.selects RX10 yX10_readNext yX10_readNext ∈ wsL_law := wr_18 _ (List.mem_of_getElem? (i := 22) rfl)
theorem wq_18_23 : Cond.code yX10_readNext cX10_readNext 1 none ∈ wsL_law := wr_18 _ (List.mem_of_getElem? (i := 23) rfl)
theorem wq_19_0 : Cond.methodLink RX10 201 yX10_readReach ∈ wsL_law := wr_19 _ (List.mem_of_getElem? (i := 0) rfl)
theorem wq_19_1 : Cond.instanceMethod yX10_readReach ∈ wsL_law := wr_19 _ (List.mem_of_getElem? (i := 1) rfl)
theorem wq_19_2 : Cond.selects RX10 yX10_readReach yX10_readReach ∈ wsL_law := wr_19 _ (List.mem_of_getElem? (i := 2) rfl)
theorem wq_19_3 : Cond.code yX10_readReach cX10_readReach 3 none ∈ wsL_law := wr_19 _ (List.mem_of_getElem? (i := 3) rfl)
theorem wq_19_4 : Cond.methodLink RX10 204 yX10_readJoin ∈ wsL_law := wr_19 _ (List.mem_of_getElem? (i := 4) rfl)
theorem wq_19_5 : Cond.instanceMethod yX10_readJoin ∈ wsL_law := wr_19 _ (List.mem_of_getElem? (i := 5) rfl)
theorem wq_19_6 : Cond.selects RX10 yX10_readJoin yX10_readJoin ∈ wsL_law := wr_19 _ (List.mem_of_getElem? (i := 6) rfl)
theorem wq_19_7 : Cond.code yX10_readJoin cX10_readJoin 2 none ∈ wsL_law := wr_19 _ (List.mem_of_getElem? (i := 7) rfl)
theorem wq_19_8 : Cond.methodLink RX10 207 yX10_readRain ∈ wsL_law := wr_19 _ (List.mem_of_getElem? (i := 8) rfl)
theorem wq_19_9 : Cond.instanceMethod yX10_readRain ∈ wsL_law := wr_19 _ (List.mem_of_getElem? (i := 9) rfl)
theorem wq_19_10 : Cond.selects RX10 yX10_readRain yX10_readRain ∈ wsL_law := wr_19 _ (List.mem_of_getElem? (i := 10) rfl)
theorem wq_19_11 : Cond.code yX10_readRain cX10_readRain 2 none ∈ wsL_law := wr_19 _ (List.mem_of_getElem? (i := 11) rfl)
theorem wq_19_12 : Cond.methodLink RL 28 yX9_fault ∈ wsL_law := wr_19 _ (List.mem_of_getElem? (i := 12) rfl)
theorem wq_19_13 : Cond.instanceMethod yX9_fault ∈ wsL_law := wr_19 _ (List.mem_of_getElem? (i := 13) rfl)
theorem wq_19_14 : Cond.selects RX9 yX9_fault yX9_fault ∈ wsL_law := wr_19 _ (List.mem_of_getElem? (i := 14) rfl)
theorem wq_19_15 : Cond.code yX9_fault cX9_fault 2 (some .int) ∈ wsL_law := wr_19 _ (List.mem_of_getElem? (i := 15) rfl)
theorem wq_19_16 : Cond.methodLink RL 31 yX10_fault ∈ wsL_law := wr_19 _ (List.mem_of_getElem? (i := 16) rfl)
theorem wq_19_17 : Cond.instanceMethod yX10_fault ∈ wsL_law := wr_19 _ (List.mem_of_getElem? (i := 17) rfl)
theorem wq_19_18 : Cond.selects RX10 yX10_fault yX10_fault ∈ wsL_law := wr_19 _ (List.mem_of_getElem? (i := 18) rfl)
theorem wq_19_19 : Cond.code yX10_fault cX10_fault 2 (some .int) ∈ wsL_law := wr_19 _ (List.mem_of_getElem? (i := 19) rfl)
theorem wq_19_20 : Cond.methodLink RL 32 yX9_reach ∈ wsL_law := wr_19 _ (List.mem_of_getElem? (i := 20) rfl)
theorem wq_19_21 : Cond.instanceMethod yX9_reach ∈ wsL_law := wr_19 _ (List.mem_of_getElem? (i := 21) rfl)
theorem wq_19_22 : Cond.selects RX9 yX9_reach yX9_reach ∈ wsL_law := wr_19 _ (List.mem_of_getElem? (i := 22) rfl)
theorem wq_19_23 : Cond.code yX9_reach cX9_reach 3 (some .int) ∈ wsL_law := wr_19 _ (List.mem_of_getElem? (i := 23) rfl)
theorem wq_20_0 : Cond.methodLink RX9 117 yX9_isReach ∈ wsL_law := wr_20 _ (List.mem_of_getElem? (i := 0) rfl)
theorem wq_20_1 : Cond.instanceMethod yX9_isReach ∈ wsL_law := wr_20 _ (List.mem_of_getElem? (i := 1) rfl)
theorem wq_20_2 : Cond.selects RX9 yX9_isReach yX9_isReach ∈ wsL_law := wr_20 _ (List.mem_of_getElem? (i := 2) rfl)
theorem wq_20_3 : Cond.code yX9_isReach cX9_isReach 2 (some .boolean) ∈ wsL_law := wr_20 _ (List.mem_of_getElem? (i := 3) rfl)
theorem wq_20_4 : Cond.methodLink RX9 124 yX9_pick ∈ wsL_law := wr_20 _ (List.mem_of_getElem? (i := 4) rfl)
theorem wq_20_5 : Cond.methodLink RL 36 yX10_reach ∈ wsL_law := wr_20 _ (List.mem_of_getElem? (i := 5) rfl)
theorem wq_20_6 : Cond.instanceMethod yX10_reach ∈ wsL_law := wr_20 _ (List.mem_of_getElem? (i := 6) rfl)
theorem wq_20_7 : Cond.selects RX10 yX10_reach yX10_reach ∈ wsL_law := wr_20 _ (List.mem_of_getElem? (i := 7) rfl)
theorem wq_20_8 : Cond.code yX10_reach cX10_reach 3 (some .int) ∈ wsL_law := wr_20 _ (List.mem_of_getElem? (i := 8) rfl)
theorem wq_20_9 : Cond.constantLong RX10 90 (2) ∈ wsL_law := wr_20 _ (List.mem_of_getElem? (i := 9) rfl)
theorem wq_20_10 : Cond.methodLink RX10 219 yX10_isReach ∈ wsL_law := wr_20 _ (List.mem_of_getElem? (i := 10) rfl)
theorem wq_20_11 : Cond.instanceMethod yX10_isReach ∈ wsL_law := wr_20 _ (List.mem_of_getElem? (i := 11) rfl)
theorem wq_20_12 : Cond.selects RX10 yX10_isReach yX10_isReach ∈ wsL_law := wr_20 _ (List.mem_of_getElem? (i := 12) rfl)
theorem wq_20_13 : Cond.code yX10_isReach cX10_isReach 3 (some .boolean) ∈ wsL_law := wr_20 _ (List.mem_of_getElem? (i := 13) rfl)
theorem wq_20_14 : Cond.methodLink RX10 223 yX10_of ∈ wsL_law := wr_20 _ (List.mem_of_getElem? (i := 14) rfl)
theorem wq_20_15 : Cond.instanceMethod yX10_of ∈ wsL_law := wr_20 _ (List.mem_of_getElem? (i := 15) rfl)
theorem wq_20_16 : Cond.selects RX10 yX10_of yX10_of ∈ wsL_law := wr_20 _ (List.mem_of_getElem? (i := 16) rfl)
theorem wq_20_17 : Cond.code yX10_of cX10_of 3 (some .int) ∈ wsL_law := wr_20 _ (List.mem_of_getElem? (i := 17) rfl)
theorem wq_20_18 : Cond.methodLink RL 37 yX9_join ∈ wsL_law := wr_20 _ (List.mem_of_getElem? (i := 18) rfl)
theorem wq_20_19 : Cond.instanceMethod yX9_join ∈ wsL_law := wr_20 _ (List.mem_of_getElem? (i := 19) rfl)
theorem wq_20_20 : Cond.selects RX9 yX9_join yX9_join ∈ wsL_law := wr_20 _ (List.mem_of_getElem? (i := 20) rfl)
theorem wq_20_21 : Cond.code yX9_join cX9_join 3 (some .int) ∈ wsL_law := wr_20 _ (List.mem_of_getElem? (i := 21) rfl)
theorem wq_20_22 : Cond.methodLink RX9 134 yX9_isJoin ∈ wsL_law := wr_20 _ (List.mem_of_getElem? (i := 22) rfl)
theorem wq_20_23 : Cond.instanceMethod yX9_isJoin ∈ wsL_law := wr_20 _ (List.mem_of_getElem? (i := 23) rfl)
theorem wq_21_0 : Cond.selects RX9 yX9_isJoin yX9_isJoin ∈ wsL_law := wr_21 _ (List.mem_of_getElem? (i := 0) rfl)
theorem wq_21_1 : Cond.code yX9_isJoin cX9_isJoin 2 (some .boolean) ∈ wsL_law := wr_21 _ (List.mem_of_getElem? (i := 1) rfl)
theorem wq_21_2 : Cond.methodLink RL 40 yX10_join ∈ wsL_law := wr_21 _ (List.mem_of_getElem? (i := 2) rfl)
theorem wq_21_3 : Cond.instanceMethod yX10_join ∈ wsL_law := wr_21 _ (List.mem_of_getElem? (i := 3) rfl)
theorem wq_21_4 : Cond.selects RX10 yX10_join yX10_join ∈ wsL_law := wr_21 _ (List.mem_of_getElem? (i := 4) rfl)
theorem wq_21_5 : Cond.code yX10_join cX10_join 3 (some .int) ∈ wsL_law := wr_21 _ (List.mem_of_getElem? (i := 5) rfl)
theorem wq_21_6 : Cond.constantLong RX10 230 (3) ∈ wsL_law := wr_21 _ (List.mem_of_getElem? (i := 6) rfl)
theorem wq_21_7 : Cond.methodLink RX10 226 yX10_isJoin ∈ wsL_law := wr_21 _ (List.mem_of_getElem? (i := 7) rfl)
theorem wq_21_8 : Cond.instanceMethod yX10_isJoin ∈ wsL_law := wr_21 _ (List.mem_of_getElem? (i := 8) rfl)
theorem wq_21_9 : Cond.selects RX10 yX10_isJoin yX10_isJoin ∈ wsL_law := wr_21 _ (List.mem_of_getElem? (i := 9) rfl)
theorem wq_21_10 : Cond.code yX10_isJoin cX10_isJoin 2 (some .boolean) ∈ wsL_law := wr_21 _ (List.mem_of_getElem? (i := 10) rfl)
theorem wq_21_11 : Cond.methodLink RX10 232 yX10_ofJoin ∈ wsL_law := wr_21 _ (List.mem_of_getElem? (i := 11) rfl)
theorem wq_21_12 : Cond.instanceMethod yX10_ofJoin ∈ wsL_law := wr_21 _ (List.mem_of_getElem? (i := 12) rfl)
theorem wq_21_13 : Cond.selects RX10 yX10_ofJoin yX10_ofJoin ∈ wsL_law := wr_21 _ (List.mem_of_getElem? (i := 13) rfl)
theorem wq_21_14 : Cond.code yX10_ofJoin cX10_ofJoin 3 (some .int) ∈ wsL_law := wr_21 _ (List.mem_of_getElem? (i := 14) rfl)
theorem wq_21_15 : Cond.methodLink RL 41 yX9_rain ∈ wsL_law := wr_21 _ (List.mem_of_getElem? (i := 15) rfl)
theorem wq_21_16 : Cond.instanceMethod yX9_rain ∈ wsL_law := wr_21 _ (List.mem_of_getElem? (i := 16) rfl)
theorem wq_21_17 : Cond.selects RX9 yX9_rain yX9_rain ∈ wsL_law := wr_21 _ (List.mem_of_getElem? (i := 17) rfl)
theorem wq_21_18 : Cond.code yX9_rain cX9_rain 3 (some .int) ∈ wsL_law := wr_21 _ (List.mem_of_getElem? (i := 18) rfl)
theorem wq_21_19 : Cond.methodLink RL 44 yX10_rain ∈ wsL_law := wr_21 _ (List.mem_of_getElem? (i := 19) rfl)
theorem wq_21_20 : Cond.instanceMethod yX10_rain ∈ wsL_law := wr_21 _ (List.mem_of_getElem? (i := 20) rfl)
theorem wq_21_21 : Cond.selects RX10 yX10_rain yX10_rain ∈ wsL_law := wr_21 _ (List.mem_of_getElem? (i := 21) rfl)
theorem wq_21_22 : Cond.code yX10_rain cX10_rain 3 (some .int) ∈ wsL_law := wr_21 _ (List.mem_of_getElem? (i := 22) rfl)
theorem wq_21_23 : Cond.methodLink RL 45 yX9_level ∈ wsL_law := wr_21 _ (List.mem_of_getElem? (i := 23) rfl)
theorem wq_22_0 : Cond.instanceMethod yX9_level ∈ wsL_law := wr_22 _ (List.mem_of_getElem? (i := 0) rfl)
theorem wq_22_1 : Cond.selects RX9 yX9_level yX9_level ∈ wsL_law := wr_22 _ (List.mem_of_getElem? (i := 1) rfl)
theorem wq_22_2 : Cond.code yX9_level cX9_level 2 (some .int) ∈ wsL_law := wr_22 _ (List.mem_of_getElem? (i := 2) rfl)
theorem wq_22_3 : Cond.methodLink RX9 158 yX9_hasStep ∈ wsL_law := wr_22 _ (List.mem_of_getElem? (i := 3) rfl)
theorem wq_22_4 : Cond.instanceMethod yX9_hasStep ∈ wsL_law := wr_22 _ (List.mem_of_getElem? (i := 4) rfl)
theorem wq_22_5 : Cond.selects RX9 yX9_hasStep yX9_hasStep ∈ wsL_law := wr_22 _ (List.mem_of_getElem? (i := 5) rfl)
theorem wq_22_6 : Cond.code yX9_hasStep cX9_hasStep 2 (some .boolean) ∈ wsL_law := wr_22 _ (List.mem_of_getElem? (i := 6) rfl)
theorem wq_22_7 : Cond.methodLink RX9 194 yX9_isStep ∈ wsL_law := wr_22 _ (List.mem_of_getElem? (i := 7) rfl)
theorem wq_22_8 : Cond.static yX9_isStep ∈ wsL_law := wr_22 _ (List.mem_of_getElem? (i := 8) rfl)
theorem wq_22_9 : Cond.code yX9_isStep cX9_isStep 1 (some .boolean) ∈ wsL_law := wr_22 _ (List.mem_of_getElem? (i := 9) rfl)
theorem wq_22_10 : Cond.instanceMethod yX8_levelAt ∈ wsL_law := wr_22 _ (List.mem_of_getElem? (i := 10) rfl)
theorem wq_22_11 : Cond.selects RX8 yX8_levelAt yX8_levelAt ∈ wsL_law := wr_22 _ (List.mem_of_getElem? (i := 11) rfl)
theorem wq_22_12 : Cond.code yX8_levelAt cX8_levelAt 2 (some .int) ∈ wsL_law := wr_22 _ (List.mem_of_getElem? (i := 12) rfl)
theorem wq_22_13 : Cond.methodLink RL 48 yX10_level ∈ wsL_law := wr_22 _ (List.mem_of_getElem? (i := 13) rfl)
theorem wq_22_14 : Cond.instanceMethod yX10_level ∈ wsL_law := wr_22 _ (List.mem_of_getElem? (i := 14) rfl)
theorem wq_22_15 : Cond.selects RX10 yX10_level yX10_level ∈ wsL_law := wr_22 _ (List.mem_of_getElem? (i := 15) rfl)
theorem wq_22_16 : Cond.code yX10_level cX10_level 2 (some .int) ∈ wsL_law := wr_22 _ (List.mem_of_getElem? (i := 16) rfl)
theorem wq_22_17 : Cond.methodLink RX10 253 yX10_asksRivers ∈ wsL_law := wr_22 _ (List.mem_of_getElem? (i := 17) rfl)
theorem wq_22_18 : Cond.instanceMethod yX10_asksRivers ∈ wsL_law := wr_22 _ (List.mem_of_getElem? (i := 18) rfl)
theorem wq_22_19 : Cond.selects RX10 yX10_asksRivers yX10_asksRivers ∈ wsL_law := wr_22 _ (List.mem_of_getElem? (i := 19) rfl)
theorem wq_22_20 : Cond.code yX10_asksRivers cX10_asksRivers 1 (some .boolean) ∈ wsL_law := wr_22 _ (List.mem_of_getElem? (i := 20) rfl)
theorem wq_22_21 : Cond.methodLink RX10 247 yX10_asItIs ∈ wsL_law := wr_22 _ (List.mem_of_getElem? (i := 21) rfl)
theorem wq_22_22 : Cond.instanceMethod yX10_asItIs ∈ wsL_law := wr_22 _ (List.mem_of_getElem? (i := 22) rfl)
theorem wq_22_23 : Cond.selects RX10 yX10_asItIs yX10_asItIs ∈ wsL_law := wr_22 _ (List.mem_of_getElem? (i := 23) rfl)
theorem wq_23_0 : Cond.code yX10_asItIs cX10_asItIs 3 none ∈ wsL_law := wr_23 _ (List.mem_of_getElem? (i := 0) rfl)
theorem wq_23_1 : Cond.fieldLink RX10 238 "QuotedRiverModel" "shutSet" "I" ∈ wsL_law := wr_23 _ (List.mem_of_getElem? (i := 1) rfl)
theorem wq_23_2 : Cond.fieldLink RX10 241 "QuotedRiverModel" "stopped" "I" ∈ wsL_law := wr_23 _ (List.mem_of_getElem? (i := 2) rfl)
theorem wq_23_3 : Cond.methodLink RX10 244 yX10_layLevels ∈ wsL_law := wr_23 _ (List.mem_of_getElem? (i := 3) rfl)
theorem wq_23_4 : Cond.instanceMethod yX10_layLevels ∈ wsL_law := wr_23 _ (List.mem_of_getElem? (i := 4) rfl)
theorem wq_23_5 : Cond.selects RX10 yX10_layLevels yX10_layLevels ∈ wsL_law := wr_23 _ (List.mem_of_getElem? (i := 5) rfl)
theorem wq_23_6 : Cond.code yX10_layLevels cX10_layLevels 3 none ∈ wsL_law := wr_23 _ (List.mem_of_getElem? (i := 6) rfl)
theorem wq_23_7 : Cond.methodLink RX10 235 Lib.Math.max.name ∈ wsL_law := wr_23 _ (List.mem_of_getElem? (i := 7) rfl)
theorem wq_23_8 : Cond.methodLink RX10 250 yX10_isRivers ∈ wsL_law := wr_23 _ (List.mem_of_getElem? (i := 8) rfl)
theorem wq_23_9 : Cond.instanceMethod yX10_isRivers ∈ wsL_law := wr_23 _ (List.mem_of_getElem? (i := 9) rfl)
theorem wq_23_10 : Cond.selects RX10 yX10_isRivers yX10_isRivers ∈ wsL_law := wr_23 _ (List.mem_of_getElem? (i := 10) rfl)
theorem wq_23_11 : Cond.code yX10_isRivers cX10_isRivers 1 (some .boolean) ∈ wsL_law := wr_23 _ (List.mem_of_getElem? (i := 11) rfl)
theorem wq_23_12 : Cond.methodLink RX10 256 yX10_isStep ∈ wsL_law := wr_23 _ (List.mem_of_getElem? (i := 12) rfl)
theorem wq_23_13 : Cond.static yX10_isStep ∈ wsL_law := wr_23 _ (List.mem_of_getElem? (i := 13) rfl)
theorem wq_23_14 : Cond.code yX10_isStep cX10_isStep 2 (some .boolean) ∈ wsL_law := wr_23 _ (List.mem_of_getElem? (i := 14) rfl)
theorem wq_23_15 : Cond.constantLong RX10 96 (60) ∈ wsL_law := wr_23 _ (List.mem_of_getElem? (i := 15) rfl)
theorem wq_23_16 : Cond.methodLink RL 49 yX9_stands ∈ wsL_law := wr_23 _ (List.mem_of_getElem? (i := 16) rfl)
theorem wq_23_17 : Cond.instanceMethod yX9_stands ∈ wsL_law := wr_23 _ (List.mem_of_getElem? (i := 17) rfl)
theorem wq_23_18 : Cond.selects RX9 yX9_stands yX9_stands ∈ wsL_law := wr_23 _ (List.mem_of_getElem? (i := 18) rfl)
theorem wq_23_19 : Cond.code yX9_stands cX9_stands 2 (some .int) ∈ wsL_law := wr_23 _ (List.mem_of_getElem? (i := 19) rfl)
theorem wq_23_20 : Cond.methodLink RX9 165 yX9_standing ∈ wsL_law := wr_23 _ (List.mem_of_getElem? (i := 20) rfl)
theorem wq_23_21 : Cond.instanceMethod yX9_standing ∈ wsL_law := wr_23 _ (List.mem_of_getElem? (i := 21) rfl)
theorem wq_23_22 : Cond.selects RX9 yX9_standing yX9_standing ∈ wsL_law := wr_23 _ (List.mem_of_getElem? (i := 22) rfl)
theorem wq_23_23 : Cond.code yX9_standing cX9_standing 4 (some .int) ∈ wsL_law := wr_23 _ (List.mem_of_getElem? (i := 23) rfl)
theorem wq_24_0 : Cond.methodLink RX9 171 yX9_isStanding ∈ wsL_law := wr_24 _ (List.mem_of_getElem? (i := 0) rfl)
theorem wq_24_1 : Cond.instanceMethod yX9_isStanding ∈ wsL_law := wr_24 _ (List.mem_of_getElem? (i := 1) rfl)
theorem wq_24_2 : Cond.selects RX9 yX9_isStanding yX9_isStanding ∈ wsL_law := wr_24 _ (List.mem_of_getElem? (i := 2) rfl)
theorem wq_24_3 : Cond.code yX9_isStanding cX9_isStanding 3 (some .boolean) ∈ wsL_law := wr_24 _ (List.mem_of_getElem? (i := 3) rfl)
theorem wq_24_4 : Cond.methodLink RX9 237 yX9_bit ∈ wsL_law := wr_24 _ (List.mem_of_getElem? (i := 4) rfl)
theorem wq_24_5 : Cond.methodLink RL 52 yX10_stands ∈ wsL_law := wr_24 _ (List.mem_of_getElem? (i := 5) rfl)
theorem wq_24_6 : Cond.instanceMethod yX10_stands ∈ wsL_law := wr_24 _ (List.mem_of_getElem? (i := 6) rfl)
theorem wq_24_7 : Cond.selects RX10 yX10_stands yX10_stands ∈ wsL_law := wr_24 _ (List.mem_of_getElem? (i := 7) rfl)
theorem wq_24_8 : Cond.code yX10_stands cX10_stands 2 (some .int) ∈ wsL_law := wr_24 _ (List.mem_of_getElem? (i := 8) rfl)
theorem wq_24_9 : Cond.methodLink RL 53 yX9_dry ∈ wsL_law := wr_24 _ (List.mem_of_getElem? (i := 9) rfl)
theorem wq_24_10 : Cond.instanceMethod yX9_dry ∈ wsL_law := wr_24 _ (List.mem_of_getElem? (i := 10) rfl)
theorem wq_24_11 : Cond.selects RX9 yX9_dry yX9_dry ∈ wsL_law := wr_24 _ (List.mem_of_getElem? (i := 11) rfl)
theorem wq_24_12 : Cond.code yX9_dry cX9_dry 3 (some .int) ∈ wsL_law := wr_24 _ (List.mem_of_getElem? (i := 12) rfl)
theorem wq_24_13 : Cond.methodLink RL 56 yX10_dry ∈ wsL_law := wr_24 _ (List.mem_of_getElem? (i := 13) rfl)
theorem wq_24_14 : Cond.instanceMethod yX10_dry ∈ wsL_law := wr_24 _ (List.mem_of_getElem? (i := 14) rfl)
theorem wq_24_15 : Cond.selects RX10 yX10_dry yX10_dry ∈ wsL_law := wr_24 _ (List.mem_of_getElem? (i := 15) rfl)
theorem wq_24_16 : Cond.code yX10_dry cX10_dry 3 (some .int) ∈ wsL_law := wr_24 _ (List.mem_of_getElem? (i := 16) rfl)
theorem wq_24_17 : Cond.methodLink RX10 259 yX10_asksReach ∈ wsL_law := wr_24 _ (List.mem_of_getElem? (i := 17) rfl)
theorem wq_24_18 : Cond.instanceMethod yX10_asksReach ∈ wsL_law := wr_24 _ (List.mem_of_getElem? (i := 18) rfl)
theorem wq_24_19 : Cond.selects RX10 yX10_asksReach yX10_asksReach ∈ wsL_law := wr_24 _ (List.mem_of_getElem? (i := 19) rfl)
theorem wq_24_20 : Cond.code yX10_asksReach cX10_asksReach 2 (some .boolean) ∈ wsL_law := wr_24 _ (List.mem_of_getElem? (i := 20) rfl)
theorem wq_24_21 : Cond.methodLink RX10 262 yX10_bit ∈ wsL_law := wr_24 _ (List.mem_of_getElem? (i := 21) rfl)
theorem wq_24_22 : Cond.static yX10_bit ∈ wsL_law := wr_24 _ (List.mem_of_getElem? (i := 22) rfl)
theorem wq_24_23 : Cond.code yX10_bit cX10_bit 2 (some .int) ∈ wsL_law := wr_24 _ (List.mem_of_getElem? (i := 23) rfl)
theorem wq_25_0 : Cond.methodLink RL 57 yX9_drought ∈ wsL_law := wr_25 _ (List.mem_of_getElem? (i := 0) rfl)
theorem wq_25_1 : Cond.instanceMethod yX9_drought ∈ wsL_law := wr_25 _ (List.mem_of_getElem? (i := 1) rfl)
theorem wq_25_2 : Cond.selects RX9 yX9_drought yX9_drought ∈ wsL_law := wr_25 _ (List.mem_of_getElem? (i := 2) rfl)
theorem wq_25_3 : Cond.code yX9_drought cX9_drought 5 (some .int) ∈ wsL_law := wr_25 _ (List.mem_of_getElem? (i := 3) rfl)
theorem wq_25_4 : Cond.methodLink RX9 175 Lib.Math.max.name ∈ wsL_law := wr_25 _ (List.mem_of_getElem? (i := 4) rfl)
theorem wq_25_5 : Cond.methodLink RL 60 yX10_drought ∈ wsL_law := wr_25 _ (List.mem_of_getElem? (i := 5) rfl)
theorem wq_25_6 : Cond.instanceMethod yX10_drought ∈ wsL_law := wr_25 _ (List.mem_of_getElem? (i := 6) rfl)
theorem wq_25_7 : Cond.selects RX10 yX10_drought yX10_drought ∈ wsL_law := wr_25 _ (List.mem_of_getElem? (i := 7) rfl)
theorem wq_25_8 : Cond.code yX10_drought cX10_drought 5 (some .int) ∈ wsL_law := wr_25 _ (List.mem_of_getElem? (i := 8) rfl)
theorem wq_25_9 : Cond.methodLink RL 61 yX9_where ∈ wsL_law := wr_25 _ (List.mem_of_getElem? (i := 9) rfl)
theorem wq_25_10 : Cond.instanceMethod yX9_where ∈ wsL_law := wr_25 _ (List.mem_of_getElem? (i := 10) rfl)
theorem wq_25_11 : Cond.selects RX9 yX9_where yX9_where ∈ wsL_law := wr_25 _ (List.mem_of_getElem? (i := 11) rfl)
theorem wq_25_12 : Cond.code yX9_where cX9_where 4 (some .int) ∈ wsL_law := wr_25 _ (List.mem_of_getElem? (i := 12) rfl)
theorem wq_25_13 : Cond.methodLink RX9 197 yX9_putIn ∈ wsL_law := wr_25 _ (List.mem_of_getElem? (i := 13) rfl)
theorem wq_25_14 : Cond.instanceMethod yX9_putIn ∈ wsL_law := wr_25 _ (List.mem_of_getElem? (i := 14) rfl)
theorem wq_25_15 : Cond.selects RX9 yX9_putIn yX9_putIn ∈ wsL_law := wr_25 _ (List.mem_of_getElem? (i := 15) rfl)
theorem wq_25_16 : Cond.code yX9_putIn cX9_putIn 3 (some .boolean) ∈ wsL_law := wr_25 _ (List.mem_of_getElem? (i := 16) rfl)
theorem wq_25_17 : Cond.instanceMethod yX5_drift ∈ wsL_law := wr_25 _ (List.mem_of_getElem? (i := 17) rfl)
theorem wq_25_18 : Cond.selects RX5 yX5_drift yX5_drift ∈ wsL_law := wr_25 _ (List.mem_of_getElem? (i := 18) rfl)
theorem wq_25_19 : Cond.code yX5_drift cX5_drift 8 none ∈ wsL_law := wr_25 _ (List.mem_of_getElem? (i := 19) rfl)
theorem wq_25_20 : Cond.methodLink RX5 40 yX5_forget ∈ wsL_law := wr_25 _ (List.mem_of_getElem? (i := 20) rfl)
theorem wq_25_21 : Cond.instanceMethod yX5_forget ∈ wsL_law := wr_25 _ (List.mem_of_getElem? (i := 21) rfl)
theorem wq_25_22 : Cond.selects RX5 yX5_forget yX5_forget ∈ wsL_law := wr_25 _ (List.mem_of_getElem? (i := 22) rfl)
theorem wq_25_23 : Cond.code yX5_forget cX5_forget 3 none ∈ wsL_law := wr_25 _ (List.mem_of_getElem? (i := 23) rfl)
theorem wq_26_0 : Cond.methodLink RX5 72 yX5_depart ∈ wsL_law := wr_26 _ (List.mem_of_getElem? (i := 0) rfl)
theorem wq_26_1 : Cond.instanceMethod yX5_depart ∈ wsL_law := wr_26 _ (List.mem_of_getElem? (i := 1) rfl)
theorem wq_26_2 : Cond.selects RX5 yX5_depart yX5_depart ∈ wsL_law := wr_26 _ (List.mem_of_getElem? (i := 2) rfl)
theorem wq_26_3 : Cond.code yX5_depart cX5_depart 7 (some .int) ∈ wsL_law := wr_26 _ (List.mem_of_getElem? (i := 3) rfl)
theorem wq_26_4 : Cond.instanceMethod yX2_takesTurn ∈ wsL_law := wr_26 _ (List.mem_of_getElem? (i := 4) rfl)
theorem wq_26_5 : Cond.selects RX2 yX2_takesTurn yX2_takesTurn ∈ wsL_law := wr_26 _ (List.mem_of_getElem? (i := 5) rfl)
theorem wq_26_6 : Cond.code yX2_takesTurn cX2_takesTurn 4 (some .boolean) ∈ wsL_law := wr_26 _ (List.mem_of_getElem? (i := 6) rfl)
theorem wq_26_7 : Cond.methodLink RX5 76 yX5_arrive ∈ wsL_law := wr_26 _ (List.mem_of_getElem? (i := 7) rfl)
theorem wq_26_8 : Cond.instanceMethod yX5_arrive ∈ wsL_law := wr_26 _ (List.mem_of_getElem? (i := 8) rfl)
theorem wq_26_9 : Cond.selects RX5 yX5_arrive yX5_arrive ∈ wsL_law := wr_26 _ (List.mem_of_getElem? (i := 9) rfl)
theorem wq_26_10 : Cond.code yX5_arrive cX5_arrive 3 none ∈ wsL_law := wr_26 _ (List.mem_of_getElem? (i := 10) rfl)
theorem wq_26_11 : Cond.instanceMethod yX5_spotAt ∈ wsL_law := wr_26 _ (List.mem_of_getElem? (i := 11) rfl)
theorem wq_26_12 : Cond.selects RX5 yX5_spotAt yX5_spotAt ∈ wsL_law := wr_26 _ (List.mem_of_getElem? (i := 12) rfl)
theorem wq_26_13 : Cond.code yX5_spotAt cX5_spotAt 2 (some .int) ∈ wsL_law := wr_26 _ (List.mem_of_getElem? (i := 13) rfl)
theorem wq_26_14 : Cond.methodLink RL 65 yX10_where ∈ wsL_law := wr_26 _ (List.mem_of_getElem? (i := 14) rfl)
theorem wq_26_15 : Cond.instanceMethod yX10_where ∈ wsL_law := wr_26 _ (List.mem_of_getElem? (i := 15) rfl)
theorem wq_26_16 : Cond.selects RX10 yX10_where yX10_where ∈ wsL_law := wr_26 _ (List.mem_of_getElem? (i := 16) rfl)
theorem wq_26_17 : Cond.code yX10_where cX10_where 4 (some .int) ∈ wsL_law := wr_26 _ (List.mem_of_getElem? (i := 17) rfl)
theorem wq_26_18 : Cond.methodLink RX10 284 yX10_putsIn ∈ wsL_law := wr_26 _ (List.mem_of_getElem? (i := 18) rfl)
theorem wq_26_19 : Cond.instanceMethod yX10_putsIn ∈ wsL_law := wr_26 _ (List.mem_of_getElem? (i := 19) rfl)
theorem wq_26_20 : Cond.selects RX10 yX10_putsIn yX10_putsIn ∈ wsL_law := wr_26 _ (List.mem_of_getElem? (i := 20) rfl)
theorem wq_26_21 : Cond.code yX10_putsIn cX10_putsIn 3 (some .boolean) ∈ wsL_law := wr_26 _ (List.mem_of_getElem? (i := 21) rfl)
theorem wq_26_22 : Cond.methodLink RX10 280 yX10_goStick ∈ wsL_law := wr_26 _ (List.mem_of_getElem? (i := 22) rfl)
theorem wq_26_23 : Cond.instanceMethod yX10_goStick ∈ wsL_law := wr_26 _ (List.mem_of_getElem? (i := 23) rfl)
theorem wq_27_0 : Cond.selects RX10 yX10_goStick yX10_goStick ∈ wsL_law := wr_27 _ (List.mem_of_getElem? (i := 0) rfl)
theorem wq_27_1 : Cond.code yX10_goStick cX10_goStick 8 none ∈ wsL_law := wr_27 _ (List.mem_of_getElem? (i := 1) rfl)
theorem wq_27_2 : Cond.fieldLink RX10 268 "QuotedRiverModel" "leftMany" "I" ∈ wsL_law := wr_27 _ (List.mem_of_getElem? (i := 2) rfl)
theorem wq_27_3 : Cond.fieldLink RX10 271 "QuotedRiverModel" "joinMany" "I" ∈ wsL_law := wr_27 _ (List.mem_of_getElem? (i := 3) rfl)
theorem wq_27_4 : Cond.fieldLink RX10 274 "QuotedRiverModel" "joinSet" "I" ∈ wsL_law := wr_27 _ (List.mem_of_getElem? (i := 4) rfl)
theorem wq_27_5 : Cond.methodLink RX10 277 yX10_joinFrom ∈ wsL_law := wr_27 _ (List.mem_of_getElem? (i := 5) rfl)
theorem wq_27_6 : Cond.instanceMethod yX10_joinFrom ∈ wsL_law := wr_27 _ (List.mem_of_getElem? (i := 6) rfl)
theorem wq_27_7 : Cond.selects RX10 yX10_joinFrom yX10_joinFrom ∈ wsL_law := wr_27 _ (List.mem_of_getElem? (i := 7) rfl)
theorem wq_27_8 : Cond.code yX10_joinFrom cX10_joinFrom 4 (some .int) ∈ wsL_law := wr_27 _ (List.mem_of_getElem? (i := 8) rfl)
theorem wq_27_9 : Cond.methodLink RL 66 yX9_sea ∈ wsL_law := wr_27 _ (List.mem_of_getElem? (i := 9) rfl)
theorem wq_27_10 : Cond.instanceMethod yX9_sea ∈ wsL_law := wr_27 _ (List.mem_of_getElem? (i := 10) rfl)
theorem wq_27_11 : Cond.selects RX9 yX9_sea yX9_sea ∈ wsL_law := wr_27 _ (List.mem_of_getElem? (i := 11) rfl)
theorem wq_27_12 : Cond.code yX9_sea cX9_sea 3 (some .int) ∈ wsL_law := wr_27 _ (List.mem_of_getElem? (i := 12) rfl)
theorem wq_27_13 : Cond.methodLink RL 69 yX10_sea ∈ wsL_law := wr_27 _ (List.mem_of_getElem? (i := 13) rfl)
theorem wq_27_14 : Cond.instanceMethod yX10_sea ∈ wsL_law := wr_27 _ (List.mem_of_getElem? (i := 14) rfl)
theorem wq_27_15 : Cond.selects RX10 yX10_sea yX10_sea ∈ wsL_law := wr_27 _ (List.mem_of_getElem? (i := 15) rfl)
theorem wq_27_16 : Cond.code yX10_sea cX10_sea 3 (some .int) ∈ wsL_law := wr_27 _ (List.mem_of_getElem? (i := 16) rfl)
theorem wq_27_17 : Cond.methodLink RX10 288 yX10_comesOf ∈ wsL_law := wr_27 _ (List.mem_of_getElem? (i := 17) rfl)
theorem wq_27_18 : Cond.instanceMethod yX10_comesOf ∈ wsL_law := wr_27 _ (List.mem_of_getElem? (i := 18) rfl)
theorem wq_27_19 : Cond.selects RX10 yX10_comesOf yX10_comesOf ∈ wsL_law := wr_27 _ (List.mem_of_getElem? (i := 19) rfl)
theorem wq_27_20 : Cond.code yX10_comesOf cX10_comesOf 4 (some .int) ∈ wsL_law := wr_27 _ (List.mem_of_getElem? (i := 20) rfl)
theorem wq_27_21 : Cond.methodLink RL 70 yX9_comes ∈ wsL_law := wr_27 _ (List.mem_of_getElem? (i := 21) rfl)
theorem wq_27_22 : Cond.instanceMethod yX9_comes ∈ wsL_law := wr_27 _ (List.mem_of_getElem? (i := 22) rfl)
theorem wq_27_23 : Cond.selects RX9 yX9_comes yX9_comes ∈ wsL_law := wr_27 _ (List.mem_of_getElem? (i := 23) rfl)
theorem wq_28_0 : Cond.code yX9_comes cX9_comes 4 (some .int) ∈ wsL_law := wr_28 _ (List.mem_of_getElem? (i := 0) rfl)
theorem wq_28_1 : Cond.instanceMethod yX5_firstIn ∈ wsL_law := wr_28 _ (List.mem_of_getElem? (i := 1) rfl)
theorem wq_28_2 : Cond.selects RX5 yX5_firstIn yX5_firstIn ∈ wsL_law := wr_28 _ (List.mem_of_getElem? (i := 2) rfl)
theorem wq_28_3 : Cond.code yX5_firstIn cX5_firstIn 3 (some .int) ∈ wsL_law := wr_28 _ (List.mem_of_getElem? (i := 3) rfl)
theorem wq_28_4 : Cond.methodLink RX5 96 yX5_spotAt ∈ wsL_law := wr_28 _ (List.mem_of_getElem? (i := 4) rfl)
theorem wq_28_5 : Cond.methodLink RL 73 yX10_comes ∈ wsL_law := wr_28 _ (List.mem_of_getElem? (i := 5) rfl)
theorem wq_28_6 : Cond.instanceMethod yX10_comes ∈ wsL_law := wr_28 _ (List.mem_of_getElem? (i := 6) rfl)
theorem wq_28_7 : Cond.selects RX10 yX10_comes yX10_comes ∈ wsL_law := wr_28 _ (List.mem_of_getElem? (i := 7) rfl)
theorem wq_28_8 : Cond.code yX10_comes cX10_comes 4 (some .int) ∈ wsL_law := wr_28 _ (List.mem_of_getElem? (i := 8) rfl)
theorem wq_28_9 : Cond.methodLink RL 74 yX9_way ∈ wsL_law := wr_28 _ (List.mem_of_getElem? (i := 9) rfl)
theorem wq_28_10 : Cond.instanceMethod yX9_way ∈ wsL_law := wr_28 _ (List.mem_of_getElem? (i := 10) rfl)
theorem wq_28_11 : Cond.selects RX9 yX9_way yX9_way ∈ wsL_law := wr_28 _ (List.mem_of_getElem? (i := 11) rfl)
theorem wq_28_12 : Cond.code yX9_way cX9_way 3 (some .int) ∈ wsL_law := wr_28 _ (List.mem_of_getElem? (i := 12) rfl)
theorem wq_28_13 : Cond.methodLink RL 77 yX10_way ∈ wsL_law := wr_28 _ (List.mem_of_getElem? (i := 13) rfl)
theorem wq_28_14 : Cond.instanceMethod yX10_way ∈ wsL_law := wr_28 _ (List.mem_of_getElem? (i := 14) rfl)
theorem wq_28_15 : Cond.selects RX10 yX10_way yX10_way ∈ wsL_law := wr_28 _ (List.mem_of_getElem? (i := 15) rfl)
theorem wq_28_16 : Cond.code yX10_way cX10_way 5 (some .int) ∈ wsL_law := wr_28 _ (List.mem_of_getElem? (i := 16) rfl)
theorem wq_28_17 : Cond.methodLink RL 78 yX9_leaves ∈ wsL_law := wr_28 _ (List.mem_of_getElem? (i := 17) rfl)
theorem wq_28_18 : Cond.instanceMethod yX9_leaves ∈ wsL_law := wr_28 _ (List.mem_of_getElem? (i := 18) rfl)
theorem wq_28_19 : Cond.selects RX9 yX9_leaves yX9_leaves ∈ wsL_law := wr_28 _ (List.mem_of_getElem? (i := 19) rfl)
theorem wq_28_20 : Cond.code yX9_leaves cX9_leaves 3 (some .int) ∈ wsL_law := wr_28 _ (List.mem_of_getElem? (i := 20) rfl)
theorem wq_28_21 : Cond.methodLink RL 81 yX10_leaves ∈ wsL_law := wr_28 _ (List.mem_of_getElem? (i := 21) rfl)
theorem wq_28_22 : Cond.instanceMethod yX10_leaves ∈ wsL_law := wr_28 _ (List.mem_of_getElem? (i := 22) rfl)
theorem wq_28_23 : Cond.selects RX10 yX10_leaves yX10_leaves ∈ wsL_law := wr_28 _ (List.mem_of_getElem? (i := 23) rfl)
theorem wq_29_0 : Cond.code yX10_leaves cX10_leaves 3 (some .int) ∈ wsL_law := wr_29 _ (List.mem_of_getElem? (i := 0) rfl)
theorem wq_29_1 : Cond.methodLink RL 82 yX9_waits ∈ wsL_law := wr_29 _ (List.mem_of_getElem? (i := 1) rfl)
theorem wq_29_2 : Cond.instanceMethod yX9_waits ∈ wsL_law := wr_29 _ (List.mem_of_getElem? (i := 2) rfl)
theorem wq_29_3 : Cond.selects RX9 yX9_waits yX9_waits ∈ wsL_law := wr_29 _ (List.mem_of_getElem? (i := 3) rfl)
theorem wq_29_4 : Cond.code yX9_waits cX9_waits 3 (some .int) ∈ wsL_law := wr_29 _ (List.mem_of_getElem? (i := 4) rfl)
theorem wq_29_5 : Cond.methodLink RL 85 yX10_waits ∈ wsL_law := wr_29 _ (List.mem_of_getElem? (i := 5) rfl)
theorem wq_29_6 : Cond.instanceMethod yX10_waits ∈ wsL_law := wr_29 _ (List.mem_of_getElem? (i := 6) rfl)
theorem wq_29_7 : Cond.selects RX10 yX10_waits yX10_waits ∈ wsL_law := wr_29 _ (List.mem_of_getElem? (i := 7) rfl)
theorem wq_29_8 : Cond.code yX10_waits cX10_waits 5 (some .int) ∈ wsL_law := wr_29 _ (List.mem_of_getElem? (i := 8) rfl)
theorem wq_29_9 : Cond.methodLink RL 86 yX9_jumps ∈ wsL_law := wr_29 _ (List.mem_of_getElem? (i := 9) rfl)
theorem wq_29_10 : Cond.instanceMethod yX9_jumps ∈ wsL_law := wr_29 _ (List.mem_of_getElem? (i := 10) rfl)
theorem wq_29_11 : Cond.selects RX9 yX9_jumps yX9_jumps ∈ wsL_law := wr_29 _ (List.mem_of_getElem? (i := 11) rfl)
theorem wq_29_12 : Cond.code yX9_jumps cX9_jumps 3 (some .int) ∈ wsL_law := wr_29 _ (List.mem_of_getElem? (i := 12) rfl)
theorem wq_29_13 : Cond.methodLink RL 89 yX10_jumps ∈ wsL_law := wr_29 _ (List.mem_of_getElem? (i := 13) rfl)
theorem wq_29_14 : Cond.instanceMethod yX10_jumps ∈ wsL_law := wr_29 _ (List.mem_of_getElem? (i := 14) rfl)
theorem wq_29_15 : Cond.selects RX10 yX10_jumps yX10_jumps ∈ wsL_law := wr_29 _ (List.mem_of_getElem? (i := 15) rfl)
theorem wq_29_16 : Cond.code yX10_jumps cX10_jumps 3 (some .int) ∈ wsL_law := wr_29 _ (List.mem_of_getElem? (i := 16) rfl)
theorem wq_29_17 : Cond.methodLink RL 90 yX9_finds ∈ wsL_law := wr_29 _ (List.mem_of_getElem? (i := 17) rfl)
theorem wq_29_18 : Cond.instanceMethod yX9_finds ∈ wsL_law := wr_29 _ (List.mem_of_getElem? (i := 18) rfl)
theorem wq_29_19 : Cond.selects RX9 yX9_finds yX9_finds ∈ wsL_law := wr_29 _ (List.mem_of_getElem? (i := 19) rfl)
theorem wq_29_20 : Cond.code yX9_finds cX9_finds 3 (some .int) ∈ wsL_law := wr_29 _ (List.mem_of_getElem? (i := 20) rfl)
theorem wq_29_21 : Cond.methodLink RL 93 yX10_finds ∈ wsL_law := wr_29 _ (List.mem_of_getElem? (i := 21) rfl)
theorem wq_29_22 : Cond.instanceMethod yX10_finds ∈ wsL_law := wr_29 _ (List.mem_of_getElem? (i := 22) rfl)
theorem wq_29_23 : Cond.selects RX10 yX10_finds yX10_finds ∈ wsL_law := wr_29 _ (List.mem_of_getElem? (i := 23) rfl)
theorem wq_30_0 : Cond.code yX10_finds cX10_finds 7 (some .int) ∈ wsL_law := wr_30 _ (List.mem_of_getElem? (i := 0) rfl)
theorem wq_30_1 : Cond.methodLink RL 94 yX9_from ∈ wsL_law := wr_30 _ (List.mem_of_getElem? (i := 1) rfl)
theorem wq_30_2 : Cond.instanceMethod yX9_from ∈ wsL_law := wr_30 _ (List.mem_of_getElem? (i := 2) rfl)
theorem wq_30_3 : Cond.selects RX9 yX9_from yX9_from ∈ wsL_law := wr_30 _ (List.mem_of_getElem? (i := 3) rfl)
theorem wq_30_4 : Cond.code yX9_from cX9_from 5 (some .int) ∈ wsL_law := wr_30 _ (List.mem_of_getElem? (i := 4) rfl)
theorem wq_30_5 : Cond.methodLink RL 97 yX10_from ∈ wsL_law := wr_30 _ (List.mem_of_getElem? (i := 5) rfl)
theorem wq_30_6 : Cond.instanceMethod yX10_from ∈ wsL_law := wr_30 _ (List.mem_of_getElem? (i := 6) rfl)
theorem wq_30_7 : Cond.selects RX10 yX10_from yX10_from ∈ wsL_law := wr_30 _ (List.mem_of_getElem? (i := 7) rfl)
theorem wq_30_8 : Cond.code yX10_from cX10_from 5 (some .int) ∈ wsL_law := wr_30 _ (List.mem_of_getElem? (i := 8) rfl)
theorem wq_30_9 : Cond.methodLink RL 98 yX9_ends ∈ wsL_law := wr_30 _ (List.mem_of_getElem? (i := 9) rfl)
theorem wq_30_10 : Cond.instanceMethod yX9_ends ∈ wsL_law := wr_30 _ (List.mem_of_getElem? (i := 10) rfl)
theorem wq_30_11 : Cond.selects RX9 yX9_ends yX9_ends ∈ wsL_law := wr_30 _ (List.mem_of_getElem? (i := 11) rfl)
theorem wq_30_12 : Cond.code yX9_ends cX9_ends 4 (some .int) ∈ wsL_law := wr_30 _ (List.mem_of_getElem? (i := 12) rfl)
theorem wq_30_13 : Cond.methodLink RL 101 yX10_ends ∈ wsL_law := wr_30 _ (List.mem_of_getElem? (i := 13) rfl)
theorem wq_30_14 : Cond.instanceMethod yX10_ends ∈ wsL_law := wr_30 _ (List.mem_of_getElem? (i := 14) rfl)
theorem wq_30_15 : Cond.selects RX10 yX10_ends yX10_ends ∈ wsL_law := wr_30 _ (List.mem_of_getElem? (i := 15) rfl)
theorem wq_30_16 : Cond.code yX10_ends cX10_ends 4 (some .int) ∈ wsL_law := wr_30 _ (List.mem_of_getElem? (i := 16) rfl)
theorem wq_30_17 : Cond.methodLink RL 102 yX9_meet ∈ wsL_law := wr_30 _ (List.mem_of_getElem? (i := 17) rfl)
theorem wq_30_18 : Cond.instanceMethod yX9_meet ∈ wsL_law := wr_30 _ (List.mem_of_getElem? (i := 18) rfl)
theorem wq_30_19 : Cond.selects RX9 yX9_meet yX9_meet ∈ wsL_law := wr_30 _ (List.mem_of_getElem? (i := 19) rfl)
theorem wq_30_20 : Cond.code yX9_meet cX9_meet 4 (some .int) ∈ wsL_law := wr_30 _ (List.mem_of_getElem? (i := 20) rfl)
theorem wq_30_21 : Cond.methodLink RX9 240 yX9_putBothIn ∈ wsL_law := wr_30 _ (List.mem_of_getElem? (i := 21) rfl)
theorem wq_30_22 : Cond.instanceMethod yX9_putBothIn ∈ wsL_law := wr_30 _ (List.mem_of_getElem? (i := 22) rfl)
theorem wq_30_23 : Cond.selects RX9 yX9_putBothIn yX9_putBothIn ∈ wsL_law := wr_30 _ (List.mem_of_getElem? (i := 23) rfl)
theorem wq_31_0 : Cond.code yX9_putBothIn cX9_putBothIn 3 (some .boolean) ∈ wsL_law := wr_31 _ (List.mem_of_getElem? (i := 0) rfl)
theorem wq_31_1 : Cond.methodLink RX9 243 yX9_shareReach ∈ wsL_law := wr_31 _ (List.mem_of_getElem? (i := 1) rfl)
theorem wq_31_2 : Cond.instanceMethod yX9_shareReach ∈ wsL_law := wr_31 _ (List.mem_of_getElem? (i := 2) rfl)
theorem wq_31_3 : Cond.selects RX9 yX9_shareReach yX9_shareReach ∈ wsL_law := wr_31 _ (List.mem_of_getElem? (i := 3) rfl)
theorem wq_31_4 : Cond.code yX9_shareReach cX9_shareReach 2 (some .boolean) ∈ wsL_law := wr_31 _ (List.mem_of_getElem? (i := 4) rfl)
theorem wq_31_5 : Cond.methodLink RL 105 yX10_meet ∈ wsL_law := wr_31 _ (List.mem_of_getElem? (i := 5) rfl)
theorem wq_31_6 : Cond.instanceMethod yX10_meet ∈ wsL_law := wr_31 _ (List.mem_of_getElem? (i := 6) rfl)
theorem wq_31_7 : Cond.selects RX10 yX10_meet yX10_meet ∈ wsL_law := wr_31 _ (List.mem_of_getElem? (i := 7) rfl)
theorem wq_31_8 : Cond.code yX10_meet cX10_meet 4 (some .int) ∈ wsL_law := wr_31 _ (List.mem_of_getElem? (i := 8) rfl)
theorem wq_31_9 : Cond.methodLink RL 106 yX9_idle ∈ wsL_law := wr_31 _ (List.mem_of_getElem? (i := 9) rfl)
theorem wq_31_10 : Cond.instanceMethod yX9_idle ∈ wsL_law := wr_31 _ (List.mem_of_getElem? (i := 10) rfl)
theorem wq_31_11 : Cond.selects RX9 yX9_idle yX9_idle ∈ wsL_law := wr_31 _ (List.mem_of_getElem? (i := 11) rfl)
theorem wq_31_12 : Cond.code yX9_idle cX9_idle 4 (some .int) ∈ wsL_law := wr_31 _ (List.mem_of_getElem? (i := 12) rfl)
theorem wq_31_13 : Cond.methodLink RL 109 yX10_idle ∈ wsL_law := wr_31 _ (List.mem_of_getElem? (i := 13) rfl)
theorem wq_31_14 : Cond.instanceMethod yX10_idle ∈ wsL_law := wr_31 _ (List.mem_of_getElem? (i := 14) rfl)
theorem wq_31_15 : Cond.selects RX10 yX10_idle yX10_idle ∈ wsL_law := wr_31 _ (List.mem_of_getElem? (i := 15) rfl)
theorem wq_31_16 : Cond.code yX10_idle cX10_idle 4 (some .int) ∈ wsL_law := wr_31 _ (List.mem_of_getElem? (i := 16) rfl)
theorem wq_31_17 : Cond.methodLink RL 110 yX9_alike ∈ wsL_law := wr_31 _ (List.mem_of_getElem? (i := 17) rfl)
theorem wq_31_18 : Cond.instanceMethod yX9_alike ∈ wsL_law := wr_31 _ (List.mem_of_getElem? (i := 18) rfl)
theorem wq_31_19 : Cond.selects RX9 yX9_alike yX9_alike ∈ wsL_law := wr_31 _ (List.mem_of_getElem? (i := 19) rfl)
theorem wq_31_20 : Cond.code yX9_alike cX9_alike 5 (some .int) ∈ wsL_law := wr_31 _ (List.mem_of_getElem? (i := 20) rfl)
theorem wq_31_21 : Cond.methodLink RL 113 yX10_alike ∈ wsL_law := wr_31 _ (List.mem_of_getElem? (i := 21) rfl)
theorem wq_31_22 : Cond.instanceMethod yX10_alike ∈ wsL_law := wr_31 _ (List.mem_of_getElem? (i := 22) rfl)
theorem wq_31_23 : Cond.selects RX10 yX10_alike yX10_alike ∈ wsL_law := wr_31 _ (List.mem_of_getElem? (i := 23) rfl)
theorem wq_32_0 : Cond.code yX10_alike cX10_alike 5 (some .int) ∈ wsL_law := wr_32 _ (List.mem_of_getElem? (i := 0) rfl)
theorem wq_32_1 : Cond.methodLink RL 114 yX9_busy ∈ wsL_law := wr_32 _ (List.mem_of_getElem? (i := 1) rfl)
theorem wq_32_2 : Cond.instanceMethod yX9_busy ∈ wsL_law := wr_32 _ (List.mem_of_getElem? (i := 2) rfl)
theorem wq_32_3 : Cond.selects RX9 yX9_busy yX9_busy ∈ wsL_law := wr_32 _ (List.mem_of_getElem? (i := 3) rfl)
theorem wq_32_4 : Cond.code yX9_busy cX9_busy 5 (some .int) ∈ wsL_law := wr_32 _ (List.mem_of_getElem? (i := 4) rfl)
theorem wq_32_5 : Cond.methodLink RX9 246 yX9_put ∈ wsL_law := wr_32 _ (List.mem_of_getElem? (i := 5) rfl)
theorem wq_32_6 : Cond.methodLink RL 117 yX10_busy ∈ wsL_law := wr_32 _ (List.mem_of_getElem? (i := 6) rfl)
theorem wq_32_7 : Cond.instanceMethod yX10_busy ∈ wsL_law := wr_32 _ (List.mem_of_getElem? (i := 7) rfl)
theorem wq_32_8 : Cond.selects RX10 yX10_busy yX10_busy ∈ wsL_law := wr_32 _ (List.mem_of_getElem? (i := 8) rfl)
theorem wq_32_9 : Cond.code yX10_busy cX10_busy 4 (some .int) ∈ wsL_law := wr_32 _ (List.mem_of_getElem? (i := 9) rfl)
theorem wq_32_10 : Cond.methodLink RL 118 yX9_flows ∈ wsL_law := wr_32 _ (List.mem_of_getElem? (i := 10) rfl)
theorem wq_32_11 : Cond.instanceMethod yX9_flows ∈ wsL_law := wr_32 _ (List.mem_of_getElem? (i := 11) rfl)
theorem wq_32_12 : Cond.selects RX9 yX9_flows yX9_flows ∈ wsL_law := wr_32 _ (List.mem_of_getElem? (i := 12) rfl)
theorem wq_32_13 : Cond.code yX9_flows cX9_flows 2 (some .int) ∈ wsL_law := wr_32 _ (List.mem_of_getElem? (i := 13) rfl)
theorem wq_32_14 : Cond.methodLink RX9 168 yX9_allReaches ∈ wsL_law := wr_32 _ (List.mem_of_getElem? (i := 14) rfl)
theorem wq_32_15 : Cond.instanceMethod yX9_allReaches ∈ wsL_law := wr_32 _ (List.mem_of_getElem? (i := 15) rfl)
theorem wq_32_16 : Cond.selects RX9 yX9_allReaches yX9_allReaches ∈ wsL_law := wr_32 _ (List.mem_of_getElem? (i := 16) rfl)
theorem wq_32_17 : Cond.code yX9_allReaches cX9_allReaches 1 (some .int) ∈ wsL_law := wr_32 _ (List.mem_of_getElem? (i := 17) rfl)
theorem wq_32_18 : Cond.methodLink RL 121 yX10_flows ∈ wsL_law := wr_32 _ (List.mem_of_getElem? (i := 18) rfl)
theorem wq_32_19 : Cond.instanceMethod yX10_flows ∈ wsL_law := wr_32 _ (List.mem_of_getElem? (i := 19) rfl)
theorem wq_32_20 : Cond.selects RX10 yX10_flows yX10_flows ∈ wsL_law := wr_32 _ (List.mem_of_getElem? (i := 20) rfl)
theorem wq_32_21 : Cond.code yX10_flows cX10_flows 2 (some .int) ∈ wsL_law := wr_32 _ (List.mem_of_getElem? (i := 21) rfl)
theorem wq_32_22 : Cond.methodLink RL 122 yX9_mouths ∈ wsL_law := wr_32 _ (List.mem_of_getElem? (i := 22) rfl)
theorem wq_32_23 : Cond.instanceMethod yX9_mouths ∈ wsL_law := wr_32 _ (List.mem_of_getElem? (i := 23) rfl)
theorem wq_33_0 : Cond.selects RX9 yX9_mouths yX9_mouths ∈ wsL_law := wr_33 _ (List.mem_of_getElem? (i := 0) rfl)
theorem wq_33_1 : Cond.code yX9_mouths cX9_mouths 3 (some .int) ∈ wsL_law := wr_33 _ (List.mem_of_getElem? (i := 1) rfl)
theorem wq_33_2 : Cond.methodLink RL 125 yX10_mouths ∈ wsL_law := wr_33 _ (List.mem_of_getElem? (i := 2) rfl)
theorem wq_33_3 : Cond.instanceMethod yX10_mouths ∈ wsL_law := wr_33 _ (List.mem_of_getElem? (i := 3) rfl)
theorem wq_33_4 : Cond.selects RX10 yX10_mouths yX10_mouths ∈ wsL_law := wr_33 _ (List.mem_of_getElem? (i := 4) rfl)
theorem wq_33_5 : Cond.code yX10_mouths cX10_mouths 3 (some .int) ∈ wsL_law := wr_33 _ (List.mem_of_getElem? (i := 5) rfl)
theorem wq_33_6 : Cond.methodLink RL 126 yX9_springs ∈ wsL_law := wr_33 _ (List.mem_of_getElem? (i := 6) rfl)
theorem wq_33_7 : Cond.instanceMethod yX9_springs ∈ wsL_law := wr_33 _ (List.mem_of_getElem? (i := 7) rfl)
theorem wq_33_8 : Cond.selects RX9 yX9_springs yX9_springs ∈ wsL_law := wr_33 _ (List.mem_of_getElem? (i := 8) rfl)
theorem wq_33_9 : Cond.code yX9_springs cX9_springs 3 (some .int) ∈ wsL_law := wr_33 _ (List.mem_of_getElem? (i := 9) rfl)
theorem wq_33_10 : Cond.methodLink RL 129 yX10_springs ∈ wsL_law := wr_33 _ (List.mem_of_getElem? (i := 10) rfl)
theorem wq_33_11 : Cond.instanceMethod yX10_springs ∈ wsL_law := wr_33 _ (List.mem_of_getElem? (i := 11) rfl)
theorem wq_33_12 : Cond.selects RX10 yX10_springs yX10_springs ∈ wsL_law := wr_33 _ (List.mem_of_getElem? (i := 12) rfl)
theorem wq_33_13 : Cond.code yX10_springs cX10_springs 3 (some .int) ∈ wsL_law := wr_33 _ (List.mem_of_getElem? (i := 13) rfl)
theorem wq_33_14 : Cond.methodLink RL 130 yX9_depth ∈ wsL_law := wr_33 _ (List.mem_of_getElem? (i := 14) rfl)
theorem wq_33_15 : Cond.instanceMethod yX9_depth ∈ wsL_law := wr_33 _ (List.mem_of_getElem? (i := 15) rfl)
theorem wq_33_16 : Cond.selects RX9 yX9_depth yX9_depth ∈ wsL_law := wr_33 _ (List.mem_of_getElem? (i := 16) rfl)
theorem wq_33_17 : Cond.code yX9_depth cX9_depth 4 (some .int) ∈ wsL_law := wr_33 _ (List.mem_of_getElem? (i := 17) rfl)
theorem wq_33_18 : Cond.methodLink RL 133 yX10_depth ∈ wsL_law := wr_33 _ (List.mem_of_getElem? (i := 18) rfl)
theorem wq_33_19 : Cond.instanceMethod yX10_depth ∈ wsL_law := wr_33 _ (List.mem_of_getElem? (i := 19) rfl)
theorem wq_33_20 : Cond.selects RX10 yX10_depth yX10_depth ∈ wsL_law := wr_33 _ (List.mem_of_getElem? (i := 20) rfl)
theorem wq_33_21 : Cond.code yX10_depth cX10_depth 4 (some .int) ∈ wsL_law := wr_33 _ (List.mem_of_getElem? (i := 21) rfl)
theorem wq_33_22 : Cond.methodLink RL 134 yX9_rings ∈ wsL_law := wr_33 _ (List.mem_of_getElem? (i := 22) rfl)
theorem wq_33_23 : Cond.instanceMethod yX9_rings ∈ wsL_law := wr_33 _ (List.mem_of_getElem? (i := 23) rfl)
theorem wq_34_0 : Cond.selects RX9 yX9_rings yX9_rings ∈ wsL_law := wr_34 _ (List.mem_of_getElem? (i := 0) rfl)
theorem wq_34_1 : Cond.code yX9_rings cX9_rings 3 (some .int) ∈ wsL_law := wr_34 _ (List.mem_of_getElem? (i := 1) rfl)
theorem wq_34_2 : Cond.methodLink RX9 253 yX9_isInRing ∈ wsL_law := wr_34 _ (List.mem_of_getElem? (i := 2) rfl)
theorem wq_34_3 : Cond.instanceMethod yX9_isInRing ∈ wsL_law := wr_34 _ (List.mem_of_getElem? (i := 3) rfl)
theorem wq_34_4 : Cond.selects RX9 yX9_isInRing yX9_isInRing ∈ wsL_law := wr_34 _ (List.mem_of_getElem? (i := 4) rfl)
theorem wq_34_5 : Cond.code yX9_isInRing cX9_isInRing 4 (some .boolean) ∈ wsL_law := wr_34 _ (List.mem_of_getElem? (i := 5) rfl)
theorem wq_34_6 : Cond.methodLink RL 137 yX10_rings ∈ wsL_law := wr_34 _ (List.mem_of_getElem? (i := 6) rfl)
theorem wq_34_7 : Cond.instanceMethod yX10_rings ∈ wsL_law := wr_34 _ (List.mem_of_getElem? (i := 7) rfl)
theorem wq_34_8 : Cond.selects RX10 yX10_rings yX10_rings ∈ wsL_law := wr_34 _ (List.mem_of_getElem? (i := 8) rfl)
theorem wq_34_9 : Cond.code yX10_rings cX10_rings 5 (some .int) ∈ wsL_law := wr_34 _ (List.mem_of_getElem? (i := 9) rfl)
theorem wq_34_10 : Cond.methodLink RL 138 yX9_rained ∈ wsL_law := wr_34 _ (List.mem_of_getElem? (i := 10) rfl)
theorem wq_34_11 : Cond.instanceMethod yX9_rained ∈ wsL_law := wr_34 _ (List.mem_of_getElem? (i := 11) rfl)
theorem wq_34_12 : Cond.selects RX9 yX9_rained yX9_rained ∈ wsL_law := wr_34 _ (List.mem_of_getElem? (i := 12) rfl)
theorem wq_34_13 : Cond.code yX9_rained cX9_rained 4 (some .int) ∈ wsL_law := wr_34 _ (List.mem_of_getElem? (i := 13) rfl)
theorem wq_34_14 : Cond.methodLink RL 141 yX10_rained ∈ wsL_law := wr_34 _ (List.mem_of_getElem? (i := 14) rfl)
theorem wq_34_15 : Cond.instanceMethod yX10_rained ∈ wsL_law := wr_34 _ (List.mem_of_getElem? (i := 15) rfl)
theorem wq_34_16 : Cond.selects RX10 yX10_rained yX10_rained ∈ wsL_law := wr_34 _ (List.mem_of_getElem? (i := 16) rfl)
theorem wq_34_17 : Cond.code yX10_rained cX10_rained 4 (some .int) ∈ wsL_law := wr_34 _ (List.mem_of_getElem? (i := 17) rfl)
theorem wq_34_18 : Cond.methodLink RL 142 yX9_lowest ∈ wsL_law := wr_34 _ (List.mem_of_getElem? (i := 18) rfl)
theorem wq_34_19 : Cond.instanceMethod yX9_lowest ∈ wsL_law := wr_34 _ (List.mem_of_getElem? (i := 19) rfl)
theorem wq_34_20 : Cond.selects RX9 yX9_lowest yX9_lowest ∈ wsL_law := wr_34 _ (List.mem_of_getElem? (i := 20) rfl)
theorem wq_34_21 : Cond.code yX9_lowest cX9_lowest 1 (some .int) ∈ wsL_law := wr_34 _ (List.mem_of_getElem? (i := 21) rfl)
theorem wq_34_22 : Cond.methodLink RX9 188 yX9_leastStep ∈ wsL_law := wr_34 _ (List.mem_of_getElem? (i := 22) rfl)
theorem wq_34_23 : Cond.instanceMethod yX9_leastStep ∈ wsL_law := wr_34 _ (List.mem_of_getElem? (i := 23) rfl)
theorem wq_35_0 : Cond.selects RX9 yX9_leastStep yX9_leastStep ∈ wsL_law := wr_35 _ (List.mem_of_getElem? (i := 0) rfl)
theorem wq_35_1 : Cond.code yX9_leastStep cX9_leastStep 3 (some .int) ∈ wsL_law := wr_35 _ (List.mem_of_getElem? (i := 1) rfl)
theorem wq_35_2 : Cond.methodLink RL 145 yX10_lowest ∈ wsL_law := wr_35 _ (List.mem_of_getElem? (i := 2) rfl)
theorem wq_35_3 : Cond.instanceMethod yX10_lowest ∈ wsL_law := wr_35 _ (List.mem_of_getElem? (i := 3) rfl)
theorem wq_35_4 : Cond.selects RX10 yX10_lowest yX10_lowest ∈ wsL_law := wr_35 _ (List.mem_of_getElem? (i := 4) rfl)
theorem wq_35_5 : Cond.code yX10_lowest cX10_lowest 1 (some .int) ∈ wsL_law := wr_35 _ (List.mem_of_getElem? (i := 5) rfl)
theorem wq_35_6 : Cond.methodLink RX10 265 yX10_lowestOf ∈ wsL_law := wr_35 _ (List.mem_of_getElem? (i := 6) rfl)
theorem wq_35_7 : Cond.instanceMethod yX10_lowestOf ∈ wsL_law := wr_35 _ (List.mem_of_getElem? (i := 7) rfl)
theorem wq_35_8 : Cond.selects RX10 yX10_lowestOf yX10_lowestOf ∈ wsL_law := wr_35 _ (List.mem_of_getElem? (i := 8) rfl)
theorem wq_35_9 : Cond.code yX10_lowestOf cX10_lowestOf 3 (some .int) ∈ wsL_law := wr_35 _ (List.mem_of_getElem? (i := 9) rfl)
theorem wq_35_10 : Cond.methodLink RL 146 yX9_deeper ∈ wsL_law := wr_35 _ (List.mem_of_getElem? (i := 10) rfl)
theorem wq_35_11 : Cond.instanceMethod yX9_deeper ∈ wsL_law := wr_35 _ (List.mem_of_getElem? (i := 11) rfl)
theorem wq_35_12 : Cond.selects RX9 yX9_deeper yX9_deeper ∈ wsL_law := wr_35 _ (List.mem_of_getElem? (i := 12) rfl)
theorem wq_35_13 : Cond.code yX9_deeper cX9_deeper 1 (some .int) ∈ wsL_law := wr_35 _ (List.mem_of_getElem? (i := 13) rfl)
theorem wq_35_14 : Cond.methodLink RX9 191 Lib.Math.min.name ∈ wsL_law := wr_35 _ (List.mem_of_getElem? (i := 14) rfl)
theorem wq_35_15 : Cond.methodLink RL 149 yX10_deeper ∈ wsL_law := wr_35 _ (List.mem_of_getElem? (i := 15) rfl)
theorem wq_35_16 : Cond.instanceMethod yX10_deeper ∈ wsL_law := wr_35 _ (List.mem_of_getElem? (i := 16) rfl)
theorem wq_35_17 : Cond.selects RX10 yX10_deeper yX10_deeper ∈ wsL_law := wr_35 _ (List.mem_of_getElem? (i := 17) rfl)
theorem wq_35_18 : Cond.code yX10_deeper cX10_deeper 1 (some .int) ∈ wsL_law := wr_35 _ (List.mem_of_getElem? (i := 18) rfl)
theorem wq_35_19 : Cond.methodLink RL 150 yX9_goes ∈ wsL_law := wr_35 _ (List.mem_of_getElem? (i := 19) rfl)
theorem wq_35_20 : Cond.instanceMethod yX9_goes ∈ wsL_law := wr_35 _ (List.mem_of_getElem? (i := 20) rfl)
theorem wq_35_21 : Cond.selects RX9 yX9_goes yX9_goes ∈ wsL_law := wr_35 _ (List.mem_of_getElem? (i := 21) rfl)
theorem wq_35_22 : Cond.code yX9_goes cX9_goes 3 (some .int) ∈ wsL_law := wr_35 _ (List.mem_of_getElem? (i := 22) rfl)
theorem wq_35_23 : Cond.methodLink RL 153 yX10_goes ∈ wsL_law := wr_35 _ (List.mem_of_getElem? (i := 23) rfl)
theorem wq_36_0 : Cond.instanceMethod yX10_goes ∈ wsL_law := wr_36 _ (List.mem_of_getElem? (i := 0) rfl)
theorem wq_36_1 : Cond.selects RX10 yX10_goes yX10_goes ∈ wsL_law := wr_36 _ (List.mem_of_getElem? (i := 1) rfl)
theorem wq_36_2 : Cond.code yX10_goes cX10_goes 3 (some .int) ∈ wsL_law := wr_36 _ (List.mem_of_getElem? (i := 2) rfl)
theorem wq_36_3 : Cond.methodLink RL 154 yX9_used ∈ wsL_law := wr_36 _ (List.mem_of_getElem? (i := 3) rfl)
theorem wq_36_4 : Cond.instanceMethod yX9_used ∈ wsL_law := wr_36 _ (List.mem_of_getElem? (i := 4) rfl)
theorem wq_36_5 : Cond.selects RX9 yX9_used yX9_used ∈ wsL_law := wr_36 _ (List.mem_of_getElem? (i := 5) rfl)
theorem wq_36_6 : Cond.code yX9_used cX9_used 3 (some .int) ∈ wsL_law := wr_36 _ (List.mem_of_getElem? (i := 6) rfl)
theorem wq_36_7 : Cond.methodLink RL 157 yX10_used ∈ wsL_law := wr_36 _ (List.mem_of_getElem? (i := 7) rfl)
theorem wq_36_8 : Cond.instanceMethod yX10_used ∈ wsL_law := wr_36 _ (List.mem_of_getElem? (i := 8) rfl)
theorem wq_36_9 : Cond.selects RX10 yX10_used yX10_used ∈ wsL_law := wr_36 _ (List.mem_of_getElem? (i := 9) rfl)
theorem wq_36_10 : Cond.code yX10_used cX10_used 3 (some .int) ∈ wsL_law := wr_36 _ (List.mem_of_getElem? (i := 10) rfl)
theorem wq_36_11 : Cond.methodLink RL 158 yX9_together ∈ wsL_law := wr_36 _ (List.mem_of_getElem? (i := 11) rfl)
theorem wq_36_12 : Cond.instanceMethod yX9_together ∈ wsL_law := wr_36 _ (List.mem_of_getElem? (i := 12) rfl)
theorem wq_36_13 : Cond.selects RX9 yX9_together yX9_together ∈ wsL_law := wr_36 _ (List.mem_of_getElem? (i := 13) rfl)
theorem wq_36_14 : Cond.code yX9_together cX9_together 5 (some .int) ∈ wsL_law := wr_36 _ (List.mem_of_getElem? (i := 14) rfl)
theorem wq_36_15 : Cond.methodLink RL 161 yX10_together ∈ wsL_law := wr_36 _ (List.mem_of_getElem? (i := 15) rfl)
theorem wq_36_16 : Cond.instanceMethod yX10_together ∈ wsL_law := wr_36 _ (List.mem_of_getElem? (i := 16) rfl)
theorem wq_36_17 : Cond.selects RX10 yX10_together yX10_together ∈ wsL_law := wr_36 _ (List.mem_of_getElem? (i := 17) rfl)
theorem wq_36_18 : Cond.code yX10_together cX10_together 6 (some .int) ∈ wsL_law := wr_36 _ (List.mem_of_getElem? (i := 18) rfl)
theorem wq_36_19 : Cond.methodLink RL 162 yX9_again ∈ wsL_law := wr_36 _ (List.mem_of_getElem? (i := 19) rfl)
theorem wq_36_20 : Cond.instanceMethod yX9_again ∈ wsL_law := wr_36 _ (List.mem_of_getElem? (i := 20) rfl)
theorem wq_36_21 : Cond.selects RX9 yX9_again yX9_again ∈ wsL_law := wr_36 _ (List.mem_of_getElem? (i := 21) rfl)
theorem wq_36_22 : Cond.code yX9_again cX9_again 3 (some .int) ∈ wsL_law := wr_36 _ (List.mem_of_getElem? (i := 22) rfl)
theorem wq_36_23 : Cond.methodLink RL 165 yX10_again ∈ wsL_law := wr_36 _ (List.mem_of_getElem? (i := 23) rfl)
theorem wq_37_0 : Cond.instanceMethod yX10_again ∈ wsL_law := wr_37 _ (List.mem_of_getElem? (i := 0) rfl)
theorem wq_37_1 : Cond.selects RX10 yX10_again yX10_again ∈ wsL_law := wr_37 _ (List.mem_of_getElem? (i := 1) rfl)
theorem wq_37_2 : Cond.code yX10_again cX10_again 6 (some .int) ∈ wsL_law := wr_37 _ (List.mem_of_getElem? (i := 2) rfl)
theorem wq_37_3 : Cond.methodLink RL 166 yX9_can ∈ wsL_law := wr_37 _ (List.mem_of_getElem? (i := 3) rfl)
theorem wq_37_4 : Cond.instanceMethod yX9_can ∈ wsL_law := wr_37 _ (List.mem_of_getElem? (i := 4) rfl)
theorem wq_37_5 : Cond.selects RX9 yX9_can yX9_can ∈ wsL_law := wr_37 _ (List.mem_of_getElem? (i := 5) rfl)
theorem wq_37_6 : Cond.code yX9_can cX9_can 4 (some .int) ∈ wsL_law := wr_37 _ (List.mem_of_getElem? (i := 6) rfl)
theorem wq_37_7 : Cond.methodLink RL 169 yX10_can ∈ wsL_law := wr_37 _ (List.mem_of_getElem? (i := 7) rfl)
theorem wq_37_8 : Cond.instanceMethod yX10_can ∈ wsL_law := wr_37 _ (List.mem_of_getElem? (i := 8) rfl)
theorem wq_37_9 : Cond.selects RX10 yX10_can yX10_can ∈ wsL_law := wr_37 _ (List.mem_of_getElem? (i := 9) rfl)
theorem wq_37_10 : Cond.code yX10_can cX10_can 4 (some .int) ∈ wsL_law := wr_37 _ (List.mem_of_getElem? (i := 10) rfl)
theorem wq_37_11 : Cond.methodLink RX10 291 yX10_way ∈ wsL_law := wr_37 _ (List.mem_of_getElem? (i := 11) rfl)
theorem wq_37_12 : Cond.methodLink RL 170 yX9_slowly ∈ wsL_law := wr_37 _ (List.mem_of_getElem? (i := 12) rfl)
theorem wq_37_13 : Cond.instanceMethod yX9_slowly ∈ wsL_law := wr_37 _ (List.mem_of_getElem? (i := 13) rfl)
theorem wq_37_14 : Cond.selects RX9 yX9_slowly yX9_slowly ∈ wsL_law := wr_37 _ (List.mem_of_getElem? (i := 14) rfl)
theorem wq_37_15 : Cond.code yX9_slowly cX9_slowly 6 (some .int) ∈ wsL_law := wr_37 _ (List.mem_of_getElem? (i := 15) rfl)
theorem wq_37_16 : Cond.methodLink RX9 262 yX9_coming ∈ wsL_law := wr_37 _ (List.mem_of_getElem? (i := 16) rfl)
theorem wq_37_17 : Cond.instanceMethod yX9_coming ∈ wsL_law := wr_37 _ (List.mem_of_getElem? (i := 17) rfl)
theorem wq_37_18 : Cond.selects RX9 yX9_coming yX9_coming ∈ wsL_law := wr_37 _ (List.mem_of_getElem? (i := 18) rfl)
theorem wq_37_19 : Cond.code yX9_coming cX9_coming 4 (some .int) ∈ wsL_law := wr_37 _ (List.mem_of_getElem? (i := 19) rfl)
theorem wq_37_20 : Cond.methodLink RL 173 yX10_slowly ∈ wsL_law := wr_37 _ (List.mem_of_getElem? (i := 20) rfl)
theorem wq_37_21 : Cond.instanceMethod yX10_slowly ∈ wsL_law := wr_37 _ (List.mem_of_getElem? (i := 21) rfl)
theorem wq_37_22 : Cond.selects RX10 yX10_slowly yX10_slowly ∈ wsL_law := wr_37 _ (List.mem_of_getElem? (i := 22) rfl)
theorem wq_37_23 : Cond.code yX10_slowly cX10_slowly 6 (some .int) ∈ wsL_law := wr_37 _ (List.mem_of_getElem? (i := 23) rfl)
theorem wq_38_0 : Cond.methodLink RX10 294 yX10_areTwo ∈ wsL_law := wr_38 _ (List.mem_of_getElem? (i := 0) rfl)
theorem wq_38_1 : Cond.instanceMethod yX10_areTwo ∈ wsL_law := wr_38 _ (List.mem_of_getElem? (i := 1) rfl)
theorem wq_38_2 : Cond.selects RX10 yX10_areTwo yX10_areTwo ∈ wsL_law := wr_38 _ (List.mem_of_getElem? (i := 2) rfl)
theorem wq_38_3 : Cond.code yX10_areTwo cX10_areTwo 3 (some .boolean) ∈ wsL_law := wr_38 _ (List.mem_of_getElem? (i := 3) rfl)
theorem wq_38_4 : Cond.methodLink RL 174 yX9_mean ∈ wsL_law := wr_38 _ (List.mem_of_getElem? (i := 4) rfl)
theorem wq_38_5 : Cond.instanceMethod yX9_mean ∈ wsL_law := wr_38 _ (List.mem_of_getElem? (i := 5) rfl)
theorem wq_38_6 : Cond.selects RX9 yX9_mean yX9_mean ∈ wsL_law := wr_38 _ (List.mem_of_getElem? (i := 6) rfl)
theorem wq_38_7 : Cond.code yX9_mean cX9_mean 3 (some .long) ∈ wsL_law := wr_38 _ (List.mem_of_getElem? (i := 7) rfl)
theorem wq_38_8 : Cond.constantLong RX9 332 (-2) ∈ wsL_law := wr_38 _ (List.mem_of_getElem? (i := 8) rfl)
theorem wq_38_9 : Cond.methodLink RX9 329 yX9_hasChance ∈ wsL_law := wr_38 _ (List.mem_of_getElem? (i := 9) rfl)
theorem wq_38_10 : Cond.instanceMethod yX9_hasChance ∈ wsL_law := wr_38 _ (List.mem_of_getElem? (i := 10) rfl)
theorem wq_38_11 : Cond.selects RX9 yX9_hasChance yX9_hasChance ∈ wsL_law := wr_38 _ (List.mem_of_getElem? (i := 11) rfl)
theorem wq_38_12 : Cond.code yX9_hasChance cX9_hasChance 2 (some .boolean) ∈ wsL_law := wr_38 _ (List.mem_of_getElem? (i := 12) rfl)
theorem wq_38_13 : Cond.methodLink RX9 334 yX9_weighTo ∈ wsL_law := wr_38 _ (List.mem_of_getElem? (i := 13) rfl)
theorem wq_38_14 : Cond.instanceMethod yX9_weighTo ∈ wsL_law := wr_38 _ (List.mem_of_getElem? (i := 14) rfl)
theorem wq_38_15 : Cond.selects RX9 yX9_weighTo yX9_weighTo ∈ wsL_law := wr_38 _ (List.mem_of_getElem? (i := 15) rfl)
theorem wq_38_16 : Cond.code yX9_weighTo cX9_weighTo 3 none ∈ wsL_law := wr_38 _ (List.mem_of_getElem? (i := 16) rfl)
theorem wq_38_17 : Cond.methodLink RX9 353 yX9_weighNext ∈ wsL_law := wr_38 _ (List.mem_of_getElem? (i := 17) rfl)
theorem wq_38_18 : Cond.instanceMethod yX9_weighNext ∈ wsL_law := wr_38 _ (List.mem_of_getElem? (i := 18) rfl)
theorem wq_38_19 : Cond.selects RX9 yX9_weighNext yX9_weighNext ∈ wsL_law := wr_38 _ (List.mem_of_getElem? (i := 19) rfl)
theorem wq_38_20 : Cond.code yX9_weighNext cX9_weighNext 2 none ∈ wsL_law := wr_38 _ (List.mem_of_getElem? (i := 20) rfl)
theorem wq_38_21 : Cond.instanceMethod yX0_begin ∈ wsL_law := wr_38 _ (List.mem_of_getElem? (i := 21) rfl)
theorem wq_38_22 : Cond.selects RX0 yX0_begin yX0_begin ∈ wsL_law := wr_38 _ (List.mem_of_getElem? (i := 22) rfl)
theorem wq_38_23 : Cond.code yX0_begin cX0_begin 2 none ∈ wsL_law := wr_38 _ (List.mem_of_getElem? (i := 23) rfl)
theorem wq_39_0 : Cond.methodLink RX0 26 yX0_clear ∈ wsL_law := wr_39 _ (List.mem_of_getElem? (i := 0) rfl)
theorem wq_39_1 : Cond.static yX0_clear ∈ wsL_law := wr_39 _ (List.mem_of_getElem? (i := 1) rfl)
theorem wq_39_2 : Cond.code yX0_clear cX0_clear 3 none ∈ wsL_law := wr_39 _ (List.mem_of_getElem? (i := 2) rfl)
theorem wq_39_3 : Cond.methodLink RX0 30 yX0_addWeight ∈ wsL_law := wr_39 _ (List.mem_of_getElem? (i := 3) rfl)
theorem wq_39_4 : Cond.static yX0_addWeight ∈ wsL_law := wr_39 _ (List.mem_of_getElem? (i := 4) rfl)
theorem wq_39_5 : Cond.code yX0_addWeight cX0_addWeight 4 none ∈ wsL_law := wr_39 _ (List.mem_of_getElem? (i := 5) rfl)
theorem wq_39_6 : Cond.instanceMethod yX0_advance ∈ wsL_law := wr_39 _ (List.mem_of_getElem? (i := 6) rfl)
theorem wq_39_7 : Cond.selects RX0 yX0_advance yX0_advance ∈ wsL_law := wr_39 _ (List.mem_of_getElem? (i := 7) rfl)
theorem wq_39_8 : Cond.code yX0_advance cX0_advance 7 none ∈ wsL_law := wr_39 _ (List.mem_of_getElem? (i := 8) rfl)
theorem wq_39_9 : Cond.methodLink RX0 34 Lib.Math.max.name ∈ wsL_law := wr_39 _ (List.mem_of_getElem? (i := 9) rfl)
theorem wq_39_10 : Cond.constantLong RX0 40 (10) ∈ wsL_law := wr_39 _ (List.mem_of_getElem? (i := 10) rfl)
theorem wq_39_11 : Cond.instanceMethod yX0_weightedSum ∈ wsL_law := wr_39 _ (List.mem_of_getElem? (i := 11) rfl)
theorem wq_39_12 : Cond.selects RX0 yX0_weightedSum yX0_weightedSum ∈ wsL_law := wr_39 _ (List.mem_of_getElem? (i := 12) rfl)
theorem wq_39_13 : Cond.code yX0_weightedSum cX0_weightedSum 4 (some .long) ∈ wsL_law := wr_39 _ (List.mem_of_getElem? (i := 13) rfl)
theorem wq_39_14 : Cond.methodLink RX9 345 yX9_toldFraction ∈ wsL_law := wr_39 _ (List.mem_of_getElem? (i := 14) rfl)
theorem wq_39_15 : Cond.static yX9_toldFraction ∈ wsL_law := wr_39 _ (List.mem_of_getElem? (i := 15) rfl)
theorem wq_39_16 : Cond.code yX9_toldFraction cX9_toldFraction 7 (some .long) ∈ wsL_law := wr_39 _ (List.mem_of_getElem? (i := 16) rfl)
theorem wq_39_17 : Cond.methodLink RX9 449 yX9_commonDivisor ∈ wsL_law := wr_39 _ (List.mem_of_getElem? (i := 17) rfl)
theorem wq_39_18 : Cond.static yX9_commonDivisor ∈ wsL_law := wr_39 _ (List.mem_of_getElem? (i := 18) rfl)
theorem wq_39_19 : Cond.code yX9_commonDivisor cX9_commonDivisor 7 (some .long) ∈ wsL_law := wr_39 _ (List.mem_of_getElem? (i := 19) rfl)
theorem wq_39_20 : Cond.methodLink RL 178 yX10_mean ∈ wsL_law := wr_39 _ (List.mem_of_getElem? (i := 20) rfl)
theorem wq_39_21 : Cond.instanceMethod yX10_mean ∈ wsL_law := wr_39 _ (List.mem_of_getElem? (i := 21) rfl)
theorem wq_39_22 : Cond.selects RX10 yX10_mean yX10_mean ∈ wsL_law := wr_39 _ (List.mem_of_getElem? (i := 22) rfl)
theorem wq_39_23 : Cond.code yX10_mean cX10_mean 7 (some .long) ∈ wsL_law := wr_39 _ (List.mem_of_getElem? (i := 23) rfl)
theorem wq_40_0 : Cond.constantLong RX10 357 (14) ∈ wsL_law := wr_40 _ (List.mem_of_getElem? (i := 0) rfl)
theorem wq_40_1 : Cond.constantLong RX10 361 (-2) ∈ wsL_law := wr_40 _ (List.mem_of_getElem? (i := 1) rfl)
theorem wq_40_2 : Cond.methodLink RX10 363 yX10_startWeights ∈ wsL_law := wr_40 _ (List.mem_of_getElem? (i := 2) rfl)
theorem wq_40_3 : Cond.instanceMethod yX10_startWeights ∈ wsL_law := wr_40 _ (List.mem_of_getElem? (i := 3) rfl)
theorem wq_40_4 : Cond.selects RX10 yX10_startWeights yX10_startWeights ∈ wsL_law := wr_40 _ (List.mem_of_getElem? (i := 4) rfl)
theorem wq_40_5 : Cond.code yX10_startWeights cX10_startWeights 2 none ∈ wsL_law := wr_40 _ (List.mem_of_getElem? (i := 5) rfl)
theorem wq_40_6 : Cond.methodLink RX10 366 yX10_stepWeights ∈ wsL_law := wr_40 _ (List.mem_of_getElem? (i := 6) rfl)
theorem wq_40_7 : Cond.instanceMethod yX10_stepWeights ∈ wsL_law := wr_40 _ (List.mem_of_getElem? (i := 7) rfl)
theorem wq_40_8 : Cond.selects RX10 yX10_stepWeights yX10_stepWeights ∈ wsL_law := wr_40 _ (List.mem_of_getElem? (i := 8) rfl)
theorem wq_40_9 : Cond.code yX10_stepWeights cX10_stepWeights 4 none ∈ wsL_law := wr_40 _ (List.mem_of_getElem? (i := 9) rfl)
theorem wq_40_10 : Cond.methodLink RX10 369 yX10_weightFrom ∈ wsL_law := wr_40 _ (List.mem_of_getElem? (i := 10) rfl)
theorem wq_40_11 : Cond.instanceMethod yX10_weightFrom ∈ wsL_law := wr_40 _ (List.mem_of_getElem? (i := 11) rfl)
theorem wq_40_12 : Cond.selects RX10 yX10_weightFrom yX10_weightFrom ∈ wsL_law := wr_40 _ (List.mem_of_getElem? (i := 12) rfl)
theorem wq_40_13 : Cond.code yX10_weightFrom cX10_weightFrom 6 (some .long) ∈ wsL_law := wr_40 _ (List.mem_of_getElem? (i := 13) rfl)
theorem wq_40_14 : Cond.methodLink RX10 372 yX10_divisor ∈ wsL_law := wr_40 _ (List.mem_of_getElem? (i := 14) rfl)
theorem wq_40_15 : Cond.static yX10_divisor ∈ wsL_law := wr_40 _ (List.mem_of_getElem? (i := 15) rfl)
theorem wq_40_16 : Cond.code yX10_divisor cX10_divisor 10 (some .long) ∈ wsL_law := wr_40 _ (List.mem_of_getElem? (i := 16) rfl)
theorem wq_40_17 : Cond.methodLink RL 179 yX9_answer ∈ wsL_law := wr_40 _ (List.mem_of_getElem? (i := 17) rfl)
theorem wq_40_18 : Cond.instanceMethod yX9_answer ∈ wsL_law := wr_40 _ (List.mem_of_getElem? (i := 18) rfl)
theorem wq_40_19 : Cond.selects RX9 yX9_answer yX9_answer ∈ wsL_law := wr_40 _ (List.mem_of_getElem? (i := 19) rfl)
theorem wq_40_20 : Cond.code yX9_answer cX9_answer 2 (some .int) ∈ wsL_law := wr_40 _ (List.mem_of_getElem? (i := 20) rfl)
theorem wq_40_21 : Cond.methodLink RX9 317 yX9_isLetOut ∈ wsL_law := wr_40 _ (List.mem_of_getElem? (i := 21) rfl)
theorem wq_40_22 : Cond.static yX9_isLetOut ∈ wsL_law := wr_40 _ (List.mem_of_getElem? (i := 22) rfl)
theorem wq_40_23 : Cond.code yX9_isLetOut cX9_isLetOut 1 (some .boolean) ∈ wsL_law := wr_40 _ (List.mem_of_getElem? (i := 23) rfl)
theorem wq_41_0 : Cond.methodLink RX9 320 yX9_bestAnswer ∈ wsL_law := wr_41 _ (List.mem_of_getElem? (i := 0) rfl)
theorem wq_41_1 : Cond.static yX9_bestAnswer ∈ wsL_law := wr_41 _ (List.mem_of_getElem? (i := 1) rfl)
theorem wq_41_2 : Cond.code yX9_bestAnswer cX9_bestAnswer 3 (some .int) ∈ wsL_law := wr_41 _ (List.mem_of_getElem? (i := 2) rfl)
theorem wq_41_3 : Cond.methodLink RX9 326 yX9_share ∈ wsL_law := wr_41 _ (List.mem_of_getElem? (i := 3) rfl)
theorem wq_41_4 : Cond.static yX9_share ∈ wsL_law := wr_41 _ (List.mem_of_getElem? (i := 4) rfl)
theorem wq_41_5 : Cond.code yX9_share cX9_share 2 (some .int) ∈ wsL_law := wr_41 _ (List.mem_of_getElem? (i := 5) rfl)
theorem wq_41_6 : Cond.methodLink RL 182 yX10_answer ∈ wsL_law := wr_41 _ (List.mem_of_getElem? (i := 6) rfl)
theorem wq_41_7 : Cond.instanceMethod yX10_answer ∈ wsL_law := wr_41 _ (List.mem_of_getElem? (i := 7) rfl)
theorem wq_41_8 : Cond.selects RX10 yX10_answer yX10_answer ∈ wsL_law := wr_41 _ (List.mem_of_getElem? (i := 8) rfl)
theorem wq_41_9 : Cond.code yX10_answer cX10_answer 4 (some .int) ∈ wsL_law := wr_41 _ (List.mem_of_getElem? (i := 9) rfl)
theorem wq_41_10 : Cond.constantLong RX10 355 (4) ∈ wsL_law := wr_41 _ (List.mem_of_getElem? (i := 10) rfl)
theorem wq_41_11 : Cond.methodLink RX10 349 yX10_hasBy ∈ wsL_law := wr_41 _ (List.mem_of_getElem? (i := 11) rfl)
theorem wq_41_12 : Cond.static yX10_hasBy ∈ wsL_law := wr_41 _ (List.mem_of_getElem? (i := 12) rfl)
theorem wq_41_13 : Cond.code yX10_hasBy cX10_hasBy 2 (some .int) ∈ wsL_law := wr_41 _ (List.mem_of_getElem? (i := 13) rfl)
theorem wq_41_14 : Cond.methodLink RL 183 yX9_soon ∈ wsL_law := wr_41 _ (List.mem_of_getElem? (i := 14) rfl)
theorem wq_41_15 : Cond.instanceMethod yX9_soon ∈ wsL_law := wr_41 _ (List.mem_of_getElem? (i := 15) rfl)
theorem wq_41_16 : Cond.selects RX9 yX9_soon yX9_soon ∈ wsL_law := wr_41 _ (List.mem_of_getElem? (i := 16) rfl)
theorem wq_41_17 : Cond.code yX9_soon cX9_soon 7 (some .int) ∈ wsL_law := wr_41 _ (List.mem_of_getElem? (i := 17) rfl)
theorem wq_41_18 : Cond.methodLink RL 186 yX10_soon ∈ wsL_law := wr_41 _ (List.mem_of_getElem? (i := 18) rfl)
theorem wq_41_19 : Cond.instanceMethod yX10_soon ∈ wsL_law := wr_41 _ (List.mem_of_getElem? (i := 19) rfl)
theorem wq_41_20 : Cond.selects RX10 yX10_soon yX10_soon ∈ wsL_law := wr_41 _ (List.mem_of_getElem? (i := 20) rfl)
theorem wq_41_21 : Cond.code yX10_soon cX10_soon 7 (some .int) ∈ wsL_law := wr_41 _ (List.mem_of_getElem? (i := 21) rfl)
theorem wq_41_22 : Cond.constant RX10 297 (1000000000) ∈ wsL_law := wr_41 _ (List.mem_of_getElem? (i := 22) rfl)
theorem wq_41_23 : Cond.methodLink RL 187 yX9_quick ∈ wsL_law := wr_41 _ (List.mem_of_getElem? (i := 23) rfl)
theorem wq_42_0 : Cond.instanceMethod yX9_quick ∈ wsL_law := wr_42 _ (List.mem_of_getElem? (i := 0) rfl)
theorem wq_42_1 : Cond.selects RX9 yX9_quick yX9_quick ∈ wsL_law := wr_42 _ (List.mem_of_getElem? (i := 1) rfl)
theorem wq_42_2 : Cond.code yX9_quick cX9_quick 4 (some .int) ∈ wsL_law := wr_42 _ (List.mem_of_getElem? (i := 2) rfl)
theorem wq_42_3 : Cond.methodLink RX9 266 yX9_quickestStep ∈ wsL_law := wr_42 _ (List.mem_of_getElem? (i := 3) rfl)
theorem wq_42_4 : Cond.instanceMethod yX9_quickestStep ∈ wsL_law := wr_42 _ (List.mem_of_getElem? (i := 4) rfl)
theorem wq_42_5 : Cond.selects RX9 yX9_quickestStep yX9_quickestStep ∈ wsL_law := wr_42 _ (List.mem_of_getElem? (i := 5) rfl)
theorem wq_42_6 : Cond.code yX9_quickestStep cX9_quickestStep 7 (some .int) ∈ wsL_law := wr_42 _ (List.mem_of_getElem? (i := 6) rfl)
theorem wq_42_7 : Cond.methodLink RL 190 yX10_quick ∈ wsL_law := wr_42 _ (List.mem_of_getElem? (i := 7) rfl)
theorem wq_42_8 : Cond.instanceMethod yX10_quick ∈ wsL_law := wr_42 _ (List.mem_of_getElem? (i := 8) rfl)
theorem wq_42_9 : Cond.selects RX10 yX10_quick yX10_quick ∈ wsL_law := wr_42 _ (List.mem_of_getElem? (i := 9) rfl)
theorem wq_42_10 : Cond.code yX10_quick cX10_quick 3 (some .int) ∈ wsL_law := wr_42 _ (List.mem_of_getElem? (i := 10) rfl)
theorem wq_42_11 : Cond.methodLink RX10 301 yX10_quickOf ∈ wsL_law := wr_42 _ (List.mem_of_getElem? (i := 11) rfl)
theorem wq_42_12 : Cond.instanceMethod yX10_quickOf ∈ wsL_law := wr_42 _ (List.mem_of_getElem? (i := 12) rfl)
theorem wq_42_13 : Cond.selects RX10 yX10_quickOf yX10_quickOf ∈ wsL_law := wr_42 _ (List.mem_of_getElem? (i := 13) rfl)
theorem wq_42_14 : Cond.code yX10_quickOf cX10_quickOf 6 (some .int) ∈ wsL_law := wr_42 _ (List.mem_of_getElem? (i := 14) rfl)
theorem wq_42_15 : Cond.fieldLink RX10 298 "QuotedRiverModel" "quickFrom" "I" ∈ wsL_law := wr_42 _ (List.mem_of_getElem? (i := 15) rfl)
theorem wq_42_16 : Cond.methodLink RL 191 yX9_quickly ∈ wsL_law := wr_42 _ (List.mem_of_getElem? (i := 16) rfl)
theorem wq_42_17 : Cond.instanceMethod yX9_quickly ∈ wsL_law := wr_42 _ (List.mem_of_getElem? (i := 17) rfl)
theorem wq_42_18 : Cond.selects RX9 yX9_quickly yX9_quickly ∈ wsL_law := wr_42 _ (List.mem_of_getElem? (i := 18) rfl)
theorem wq_42_19 : Cond.code yX9_quickly cX9_quickly 3 (some .int) ∈ wsL_law := wr_42 _ (List.mem_of_getElem? (i := 19) rfl)
theorem wq_42_20 : Cond.methodLink RL 194 yX10_quickly ∈ wsL_law := wr_42 _ (List.mem_of_getElem? (i := 20) rfl)
theorem wq_42_21 : Cond.instanceMethod yX10_quickly ∈ wsL_law := wr_42 _ (List.mem_of_getElem? (i := 21) rfl)
theorem wq_42_22 : Cond.selects RX10 yX10_quickly yX10_quickly ∈ wsL_law := wr_42 _ (List.mem_of_getElem? (i := 22) rfl)
theorem wq_42_23 : Cond.code yX10_quickly cX10_quickly 3 (some .int) ∈ wsL_law := wr_42 _ (List.mem_of_getElem? (i := 23) rfl)
theorem wq_43_0 : Cond.methodLink RL 195 yX9_late ∈ wsL_law := wr_43 _ (List.mem_of_getElem? (i := 0) rfl)
theorem wq_43_1 : Cond.instanceMethod yX9_late ∈ wsL_law := wr_43 _ (List.mem_of_getElem? (i := 1) rfl)
theorem wq_43_2 : Cond.selects RX9 yX9_late yX9_late ∈ wsL_law := wr_43 _ (List.mem_of_getElem? (i := 2) rfl)
theorem wq_43_3 : Cond.code yX9_late cX9_late 5 (some .int) ∈ wsL_law := wr_43 _ (List.mem_of_getElem? (i := 3) rfl)
theorem wq_43_4 : Cond.methodLink RL 198 yX10_late ∈ wsL_law := wr_43 _ (List.mem_of_getElem? (i := 4) rfl)
theorem wq_43_5 : Cond.instanceMethod yX10_late ∈ wsL_law := wr_43 _ (List.mem_of_getElem? (i := 5) rfl)
theorem wq_43_6 : Cond.selects RX10 yX10_late yX10_late ∈ wsL_law := wr_43 _ (List.mem_of_getElem? (i := 6) rfl)
theorem wq_43_7 : Cond.code yX10_late cX10_late 5 (some .int) ∈ wsL_law := wr_43 _ (List.mem_of_getElem? (i := 7) rfl)
theorem wq_43_8 : Cond.methodLink RL 199 yX9_often ∈ wsL_law := wr_43 _ (List.mem_of_getElem? (i := 8) rfl)
theorem wq_43_9 : Cond.instanceMethod yX9_often ∈ wsL_law := wr_43 _ (List.mem_of_getElem? (i := 9) rfl)
theorem wq_43_10 : Cond.selects RX9 yX9_often yX9_often ∈ wsL_law := wr_43 _ (List.mem_of_getElem? (i := 10) rfl)
theorem wq_43_11 : Cond.code yX9_often cX9_often 5 (some .int) ∈ wsL_law := wr_43 _ (List.mem_of_getElem? (i := 11) rfl)
theorem wq_43_12 : Cond.methodLink RL 202 yX10_often ∈ wsL_law := wr_43 _ (List.mem_of_getElem? (i := 12) rfl)
theorem wq_43_13 : Cond.instanceMethod yX10_often ∈ wsL_law := wr_43 _ (List.mem_of_getElem? (i := 13) rfl)
theorem wq_43_14 : Cond.selects RX10 yX10_often yX10_often ∈ wsL_law := wr_43 _ (List.mem_of_getElem? (i := 14) rfl)
theorem wq_43_15 : Cond.code yX10_often cX10_often 3 (some .int) ∈ wsL_law := wr_43 _ (List.mem_of_getElem? (i := 15) rfl)
theorem wq_43_16 : Cond.methodLink RX10 304 yX10_oftenOf ∈ wsL_law := wr_43 _ (List.mem_of_getElem? (i := 16) rfl)
theorem wq_43_17 : Cond.instanceMethod yX10_oftenOf ∈ wsL_law := wr_43 _ (List.mem_of_getElem? (i := 17) rfl)
theorem wq_43_18 : Cond.selects RX10 yX10_oftenOf yX10_oftenOf ∈ wsL_law := wr_43 _ (List.mem_of_getElem? (i := 18) rfl)
theorem wq_43_19 : Cond.code yX10_oftenOf cX10_oftenOf 5 (some .int) ∈ wsL_law := wr_43 _ (List.mem_of_getElem? (i := 19) rfl)
theorem wq_43_20 : Cond.methodLink RL 203 yX9_stop ∈ wsL_law := wr_43 _ (List.mem_of_getElem? (i := 20) rfl)
theorem wq_43_21 : Cond.instanceMethod yX9_stop ∈ wsL_law := wr_43 _ (List.mem_of_getElem? (i := 21) rfl)
theorem wq_43_22 : Cond.selects RX9 yX9_stop yX9_stop ∈ wsL_law := wr_43 _ (List.mem_of_getElem? (i := 22) rfl)
theorem wq_43_23 : Cond.code yX9_stop cX9_stop 4 (some .int) ∈ wsL_law := wr_43 _ (List.mem_of_getElem? (i := 23) rfl)
theorem wq_44_0 : Cond.methodLink RX9 269 yX9_stoppingSet ∈ wsL_law := wr_44 _ (List.mem_of_getElem? (i := 0) rfl)
theorem wq_44_1 : Cond.instanceMethod yX9_stoppingSet ∈ wsL_law := wr_44 _ (List.mem_of_getElem? (i := 1) rfl)
theorem wq_44_2 : Cond.selects RX9 yX9_stoppingSet yX9_stoppingSet ∈ wsL_law := wr_44 _ (List.mem_of_getElem? (i := 2) rfl)
theorem wq_44_3 : Cond.code yX9_stoppingSet cX9_stoppingSet 9 (some .int) ∈ wsL_law := wr_44 _ (List.mem_of_getElem? (i := 3) rfl)
theorem wq_44_4 : Cond.methodLink RX9 414 yX9_noteWays ∈ wsL_law := wr_44 _ (List.mem_of_getElem? (i := 4) rfl)
theorem wq_44_5 : Cond.instanceMethod yX9_noteWays ∈ wsL_law := wr_44 _ (List.mem_of_getElem? (i := 5) rfl)
theorem wq_44_6 : Cond.selects RX9 yX9_noteWays yX9_noteWays ∈ wsL_law := wr_44 _ (List.mem_of_getElem? (i := 6) rfl)
theorem wq_44_7 : Cond.code yX9_noteWays cX9_noteWays 6 (some .int) ∈ wsL_law := wr_44 _ (List.mem_of_getElem? (i := 7) rfl)
theorem wq_44_8 : Cond.instanceMethod yX5_visitedAhead ∈ wsL_law := wr_44 _ (List.mem_of_getElem? (i := 8) rfl)
theorem wq_44_9 : Cond.selects RX5 yX5_visitedAhead yX5_visitedAhead ∈ wsL_law := wr_44 _ (List.mem_of_getElem? (i := 9) rfl)
theorem wq_44_10 : Cond.code yX5_visitedAhead cX5_visitedAhead 5 (some .int) ∈ wsL_law := wr_44 _ (List.mem_of_getElem? (i := 10) rfl)
theorem wq_44_11 : Cond.methodLink RX9 272 yJ6_bitCount_0f7a4 ∈ wsL_law := wr_44 _ (List.mem_of_getElem? (i := 11) rfl)
theorem wq_44_12 : Cond.static yJ6_bitCount_0f7a4 ∈ wsL_law := wr_44 _ (List.mem_of_getElem? (i := 12) rfl)
theorem wq_44_13 : Cond.initialized RJ6 ∈ wsL_law := wr_44 _ (List.mem_of_getElem? (i := 13) rfl)
theorem wq_44_14 : Cond.code yJ6_bitCount_0f7a4 cJ6_bitCount_0f7a4 1 (some .int) ∈ wsL_law := wr_44 _ (List.mem_of_getElem? (i := 14) rfl)
theorem wq_44_15 : Cond.constant RJ6 265 (1431655765) ∈ wsL_law := wr_44 _ (List.mem_of_getElem? (i := 15) rfl)
theorem wq_44_16 : Cond.constant RJ6 266 (858993459) ∈ wsL_law := wr_44 _ (List.mem_of_getElem? (i := 16) rfl)
theorem wq_44_17 : Cond.constant RJ6 267 (252645135) ∈ wsL_law := wr_44 _ (List.mem_of_getElem? (i := 17) rfl)
theorem wq_44_18 : Cond.methodLink RX9 417 yX9_cutsAll ∈ wsL_law := wr_44 _ (List.mem_of_getElem? (i := 18) rfl)
theorem wq_44_19 : Cond.instanceMethod yX9_cutsAll ∈ wsL_law := wr_44 _ (List.mem_of_getElem? (i := 19) rfl)
theorem wq_44_20 : Cond.selects RX9 yX9_cutsAll yX9_cutsAll ∈ wsL_law := wr_44 _ (List.mem_of_getElem? (i := 20) rfl)
theorem wq_44_21 : Cond.code yX9_cutsAll cX9_cutsAll 4 (some .boolean) ∈ wsL_law := wr_44 _ (List.mem_of_getElem? (i := 21) rfl)
theorem wq_44_22 : Cond.methodLink RL 206 yX10_stop ∈ wsL_law := wr_44 _ (List.mem_of_getElem? (i := 22) rfl)
theorem wq_44_23 : Cond.instanceMethod yX10_stop ∈ wsL_law := wr_44 _ (List.mem_of_getElem? (i := 23) rfl)
theorem wq_45_0 : Cond.selects RX10 yX10_stop yX10_stop ∈ wsL_law := wr_45 _ (List.mem_of_getElem? (i := 0) rfl)
theorem wq_45_1 : Cond.code yX10_stop cX10_stop 4 (some .int) ∈ wsL_law := wr_45 _ (List.mem_of_getElem? (i := 1) rfl)
theorem wq_45_2 : Cond.methodLink RX10 310 yX10_stopsOf ∈ wsL_law := wr_45 _ (List.mem_of_getElem? (i := 2) rfl)
theorem wq_45_3 : Cond.instanceMethod yX10_stopsOf ∈ wsL_law := wr_45 _ (List.mem_of_getElem? (i := 3) rfl)
theorem wq_45_4 : Cond.selects RX10 yX10_stopsOf yX10_stopsOf ∈ wsL_law := wr_45 _ (List.mem_of_getElem? (i := 4) rfl)
theorem wq_45_5 : Cond.code yX10_stopsOf cX10_stopsOf 5 (some .int) ∈ wsL_law := wr_45 _ (List.mem_of_getElem? (i := 5) rfl)
theorem wq_45_6 : Cond.methodLink RX10 307 yX10_bits ∈ wsL_law := wr_45 _ (List.mem_of_getElem? (i := 6) rfl)
theorem wq_45_7 : Cond.static yX10_bits ∈ wsL_law := wr_45 _ (List.mem_of_getElem? (i := 7) rfl)
theorem wq_45_8 : Cond.code yX10_bits cX10_bits 3 (some .int) ∈ wsL_law := wr_45 _ (List.mem_of_getElem? (i := 8) rfl)
theorem wq_45_9 : Cond.methodLink RL 207 yX9_stops ∈ wsL_law := wr_45 _ (List.mem_of_getElem? (i := 9) rfl)
theorem wq_45_10 : Cond.instanceMethod yX9_stops ∈ wsL_law := wr_45 _ (List.mem_of_getElem? (i := 10) rfl)
theorem wq_45_11 : Cond.selects RX9 yX9_stops yX9_stops ∈ wsL_law := wr_45 _ (List.mem_of_getElem? (i := 11) rfl)
theorem wq_45_12 : Cond.code yX9_stops cX9_stops 3 (some .int) ∈ wsL_law := wr_45 _ (List.mem_of_getElem? (i := 12) rfl)
theorem wq_45_13 : Cond.methodLink RL 210 yX10_stops ∈ wsL_law := wr_45 _ (List.mem_of_getElem? (i := 13) rfl)
theorem wq_45_14 : Cond.instanceMethod yX10_stops ∈ wsL_law := wr_45 _ (List.mem_of_getElem? (i := 14) rfl)
theorem wq_45_15 : Cond.selects RX10 yX10_stops yX10_stops ∈ wsL_law := wr_45 _ (List.mem_of_getElem? (i := 15) rfl)
theorem wq_45_16 : Cond.code yX10_stops cX10_stops 3 (some .int) ∈ wsL_law := wr_45 _ (List.mem_of_getElem? (i := 16) rfl)
theorem wq_45_17 : Cond.methodLink RL 211 yX9_shut ∈ wsL_law := wr_45 _ (List.mem_of_getElem? (i := 17) rfl)
theorem wq_45_18 : Cond.instanceMethod yX9_shut ∈ wsL_law := wr_45 _ (List.mem_of_getElem? (i := 18) rfl)
theorem wq_45_19 : Cond.selects RX9 yX9_shut yX9_shut ∈ wsL_law := wr_45 _ (List.mem_of_getElem? (i := 19) rfl)
theorem wq_45_20 : Cond.code yX9_shut cX9_shut 6 (some .int) ∈ wsL_law := wr_45 _ (List.mem_of_getElem? (i := 20) rfl)
theorem wq_45_21 : Cond.instanceMethod yX8_become ∈ wsL_law := wr_45 _ (List.mem_of_getElem? (i := 21) rfl)
theorem wq_45_22 : Cond.selects RX8 yX8_become yX8_become ∈ wsL_law := wr_45 _ (List.mem_of_getElem? (i := 22) rfl)
theorem wq_45_23 : Cond.code yX8_become cX8_become 2 none ∈ wsL_law := wr_45 _ (List.mem_of_getElem? (i := 23) rfl)
theorem wq_46_0 : Cond.methodLink RL 214 yX10_shut ∈ wsL_law := wr_46 _ (List.mem_of_getElem? (i := 0) rfl)
theorem wq_46_1 : Cond.instanceMethod yX10_shut ∈ wsL_law := wr_46 _ (List.mem_of_getElem? (i := 1) rfl)
theorem wq_46_2 : Cond.selects RX10 yX10_shut yX10_shut ∈ wsL_law := wr_46 _ (List.mem_of_getElem? (i := 2) rfl)
theorem wq_46_3 : Cond.code yX10_shut cX10_shut 8 (some .int) ∈ wsL_law := wr_46 _ (List.mem_of_getElem? (i := 3) rfl)
theorem wq_46_4 : Cond.methodLink RX10 313 yX10_seaOf ∈ wsL_law := wr_46 _ (List.mem_of_getElem? (i := 4) rfl)
theorem wq_46_5 : Cond.instanceMethod yX10_seaOf ∈ wsL_law := wr_46 _ (List.mem_of_getElem? (i := 5) rfl)
theorem wq_46_6 : Cond.selects RX10 yX10_seaOf yX10_seaOf ∈ wsL_law := wr_46 _ (List.mem_of_getElem? (i := 6) rfl)
theorem wq_46_7 : Cond.code yX10_seaOf cX10_seaOf 4 (some .int) ∈ wsL_law := wr_46 _ (List.mem_of_getElem? (i := 7) rfl)
theorem wq_46_8 : Cond.methodLink RL 215 yX9_pour ∈ wsL_law := wr_46 _ (List.mem_of_getElem? (i := 8) rfl)
theorem wq_46_9 : Cond.instanceMethod yX9_pour ∈ wsL_law := wr_46 _ (List.mem_of_getElem? (i := 9) rfl)
theorem wq_46_10 : Cond.selects RX9 yX9_pour yX9_pour ∈ wsL_law := wr_46 _ (List.mem_of_getElem? (i := 10) rfl)
theorem wq_46_11 : Cond.code yX9_pour cX9_pour 5 (some .int) ∈ wsL_law := wr_46 _ (List.mem_of_getElem? (i := 11) rfl)
theorem wq_46_12 : Cond.methodLink RL 218 yX10_pour ∈ wsL_law := wr_46 _ (List.mem_of_getElem? (i := 12) rfl)
theorem wq_46_13 : Cond.instanceMethod yX10_pour ∈ wsL_law := wr_46 _ (List.mem_of_getElem? (i := 13) rfl)
theorem wq_46_14 : Cond.selects RX10 yX10_pour yX10_pour ∈ wsL_law := wr_46 _ (List.mem_of_getElem? (i := 14) rfl)
theorem wq_46_15 : Cond.code yX10_pour cX10_pour 6 (some .int) ∈ wsL_law := wr_46 _ (List.mem_of_getElem? (i := 15) rfl)
theorem wq_46_16 : Cond.methodLink RL 219 yX9_fits ∈ wsL_law := wr_46 _ (List.mem_of_getElem? (i := 16) rfl)
theorem wq_46_17 : Cond.instanceMethod yX9_fits ∈ wsL_law := wr_46 _ (List.mem_of_getElem? (i := 17) rfl)
theorem wq_46_18 : Cond.selects RX9 yX9_fits yX9_fits ∈ wsL_law := wr_46 _ (List.mem_of_getElem? (i := 18) rfl)
theorem wq_46_19 : Cond.code yX9_fits cX9_fits 3 (some .int) ∈ wsL_law := wr_46 _ (List.mem_of_getElem? (i := 19) rfl)
theorem wq_46_20 : Cond.methodLink RX9 290 yX9_refuseSeen ∈ wsL_law := wr_46 _ (List.mem_of_getElem? (i := 20) rfl)
theorem wq_46_21 : Cond.instanceMethod yX9_refuseSeen ∈ wsL_law := wr_46 _ (List.mem_of_getElem? (i := 21) rfl)
theorem wq_46_22 : Cond.selects RX9 yX9_refuseSeen yX9_refuseSeen ∈ wsL_law := wr_46 _ (List.mem_of_getElem? (i := 22) rfl)
theorem wq_46_23 : Cond.code yX9_refuseSeen cX9_refuseSeen 3 (some .int) ∈ wsL_law := wr_46 _ (List.mem_of_getElem? (i := 23) rfl)
theorem wq_47_0 : Cond.methodLink RX9 385 yX9_rowOf ∈ wsL_law := wr_47 _ (List.mem_of_getElem? (i := 0) rfl)
theorem wq_47_1 : Cond.instanceMethod yX9_rowOf ∈ wsL_law := wr_47 _ (List.mem_of_getElem? (i := 1) rfl)
theorem wq_47_2 : Cond.selects RX9 yX9_rowOf yX9_rowOf ∈ wsL_law := wr_47 _ (List.mem_of_getElem? (i := 2) rfl)
theorem wq_47_3 : Cond.code yX9_rowOf cX9_rowOf 2 (some (.object "QuotedRiver$Row")) ∈ wsL_law := wr_47 _ (List.mem_of_getElem? (i := 3) rfl)
theorem wq_47_4 : Cond.instanceMethod yX3_tellsSpots ∈ wsL_law := wr_47 _ (List.mem_of_getElem? (i := 4) rfl)
theorem wq_47_5 : Cond.selects RX3 yX3_tellsSpots yX3_tellsSpots ∈ wsL_law := wr_47 _ (List.mem_of_getElem? (i := 5) rfl)
theorem wq_47_6 : Cond.code yX3_tellsSpots cX3_tellsSpots 7 (some .boolean) ∈ wsL_law := wr_47 _ (List.mem_of_getElem? (i := 6) rfl)
theorem wq_47_7 : Cond.constantLong RX3 30 (60) ∈ wsL_law := wr_47 _ (List.mem_of_getElem? (i := 7) rfl)
theorem wq_47_8 : Cond.methodLink RX3 26 yX3_number ∈ wsL_law := wr_47 _ (List.mem_of_getElem? (i := 8) rfl)
theorem wq_47_9 : Cond.instanceMethod yX3_number ∈ wsL_law := wr_47 _ (List.mem_of_getElem? (i := 9) rfl)
theorem wq_47_10 : Cond.selects RX3 yX3_number yX3_number ∈ wsL_law := wr_47 _ (List.mem_of_getElem? (i := 10) rfl)
theorem wq_47_11 : Cond.code yX3_number cX3_number 2 (some .long) ∈ wsL_law := wr_47 _ (List.mem_of_getElem? (i := 11) rfl)
theorem wq_47_12 : Cond.methodLink RX9 293 yX9_search ∈ wsL_law := wr_47 _ (List.mem_of_getElem? (i := 12) rfl)
theorem wq_47_13 : Cond.instanceMethod yX9_search ∈ wsL_law := wr_47 _ (List.mem_of_getElem? (i := 13) rfl)
theorem wq_47_14 : Cond.selects RX9 yX9_search yX9_search ∈ wsL_law := wr_47 _ (List.mem_of_getElem? (i := 14) rfl)
theorem wq_47_15 : Cond.code yX9_search cX9_search 6 (some (.object "QuotedRiver$Sources")) ∈ wsL_law := wr_47 _ (List.mem_of_getElem? (i := 15) rfl)
theorem wq_47_16 : Cond.instanceMethod yX4_clear ∈ wsL_law := wr_47 _ (List.mem_of_getElem? (i := 16) rfl)
theorem wq_47_17 : Cond.selects RX4 yX4_clear yX4_clear ∈ wsL_law := wr_47 _ (List.mem_of_getElem? (i := 17) rfl)
theorem wq_47_18 : Cond.code yX4_clear cX4_clear 2 none ∈ wsL_law := wr_47 _ (List.mem_of_getElem? (i := 18) rfl)
theorem wq_47_19 : Cond.instanceMethod yX3_earliestStep ∈ wsL_law := wr_47 _ (List.mem_of_getElem? (i := 19) rfl)
theorem wq_47_20 : Cond.selects RX3 yX3_earliestStep yX3_earliestStep ∈ wsL_law := wr_47 _ (List.mem_of_getElem? (i := 20) rfl)
theorem wq_47_21 : Cond.code yX3_earliestStep cX3_earliestStep 3 (some .int) ∈ wsL_law := wr_47 _ (List.mem_of_getElem? (i := 21) rfl)
theorem wq_47_22 : Cond.methodLink RX3 32 Lib.Math.min.name ∈ wsL_law := wr_47 _ (List.mem_of_getElem? (i := 22) rfl)
theorem wq_47_23 : Cond.instanceMethod yX5_wasSeen ∈ wsL_law := wr_47 _ (List.mem_of_getElem? (i := 23) rfl)
theorem wq_48_0 : Cond.selects RX5 yX5_wasSeen yX5_wasSeen ∈ wsL_law := wr_48 _ (List.mem_of_getElem? (i := 0) rfl)
theorem wq_48_1 : Cond.code yX5_wasSeen cX5_wasSeen 3 (some .boolean) ∈ wsL_law := wr_48 _ (List.mem_of_getElem? (i := 1) rfl)
theorem wq_48_2 : Cond.instanceMethod yX4_add ∈ wsL_law := wr_48 _ (List.mem_of_getElem? (i := 2) rfl)
theorem wq_48_3 : Cond.selects RX4 yX4_add yX4_add ∈ wsL_law := wr_48 _ (List.mem_of_getElem? (i := 3) rfl)
theorem wq_48_4 : Cond.code yX4_add cX4_add 2 none ∈ wsL_law := wr_48 _ (List.mem_of_getElem? (i := 4) rfl)
theorem wq_48_5 : Cond.instanceMethod yX4_note ∈ wsL_law := wr_48 _ (List.mem_of_getElem? (i := 5) rfl)
theorem wq_48_6 : Cond.selects RX4 yX4_note yX4_note ∈ wsL_law := wr_48 _ (List.mem_of_getElem? (i := 6) rfl)
theorem wq_48_7 : Cond.code yX4_note cX4_note 4 none ∈ wsL_law := wr_48 _ (List.mem_of_getElem? (i := 7) rfl)
theorem wq_48_8 : Cond.methodLink RL 222 yX10_fits ∈ wsL_law := wr_48 _ (List.mem_of_getElem? (i := 8) rfl)
theorem wq_48_9 : Cond.instanceMethod yX10_fits ∈ wsL_law := wr_48 _ (List.mem_of_getElem? (i := 9) rfl)
theorem wq_48_10 : Cond.selects RX10 yX10_fits yX10_fits ∈ wsL_law := wr_48 _ (List.mem_of_getElem? (i := 10) rfl)
theorem wq_48_11 : Cond.code yX10_fits cX10_fits 3 (some .int) ∈ wsL_law := wr_48 _ (List.mem_of_getElem? (i := 11) rfl)
theorem wq_48_12 : Cond.fieldLink RX10 327 "QuotedRiverModel" "pairMany" "I" ∈ wsL_law := wr_48 _ (List.mem_of_getElem? (i := 12) rfl)
theorem wq_48_13 : Cond.methodLink RX10 333 yX10_layPairs ∈ wsL_law := wr_48 _ (List.mem_of_getElem? (i := 13) rfl)
theorem wq_48_14 : Cond.instanceMethod yX10_layPairs ∈ wsL_law := wr_48 _ (List.mem_of_getElem? (i := 14) rfl)
theorem wq_48_15 : Cond.selects RX10 yX10_layPairs yX10_layPairs ∈ wsL_law := wr_48 _ (List.mem_of_getElem? (i := 15) rfl)
theorem wq_48_16 : Cond.code yX10_layPairs cX10_layPairs 6 (some .int) ∈ wsL_law := wr_48 _ (List.mem_of_getElem? (i := 16) rfl)
theorem wq_48_17 : Cond.methodLink RX10 323 yX10_askSeen ∈ wsL_law := wr_48 _ (List.mem_of_getElem? (i := 17) rfl)
theorem wq_48_18 : Cond.instanceMethod yX10_askSeen ∈ wsL_law := wr_48 _ (List.mem_of_getElem? (i := 18) rfl)
theorem wq_48_19 : Cond.selects RX10 yX10_askSeen yX10_askSeen ∈ wsL_law := wr_48 _ (List.mem_of_getElem? (i := 19) rfl)
theorem wq_48_20 : Cond.code yX10_askSeen cX10_askSeen 4 (some .int) ∈ wsL_law := wr_48 _ (List.mem_of_getElem? (i := 20) rfl)
theorem wq_48_21 : Cond.methodLink RX10 316 yX10_isSlot ∈ wsL_law := wr_48 _ (List.mem_of_getElem? (i := 21) rfl)
theorem wq_48_22 : Cond.static yX10_isSlot ∈ wsL_law := wr_48 _ (List.mem_of_getElem? (i := 22) rfl)
theorem wq_48_23 : Cond.code yX10_isSlot cX10_isSlot 1 (some .boolean) ∈ wsL_law := wr_48 _ (List.mem_of_getElem? (i := 23) rfl)
theorem wq_49_0 : Cond.methodLink RX10 319 yX10_numberAt ∈ wsL_law := wr_49 _ (List.mem_of_getElem? (i := 0) rfl)
theorem wq_49_1 : Cond.instanceMethod yX10_numberAt ∈ wsL_law := wr_49 _ (List.mem_of_getElem? (i := 1) rfl)
theorem wq_49_2 : Cond.selects RX10 yX10_numberAt yX10_numberAt ∈ wsL_law := wr_49 _ (List.mem_of_getElem? (i := 2) rfl)
theorem wq_49_3 : Cond.code yX10_numberAt cX10_numberAt 3 (some .long) ∈ wsL_law := wr_49 _ (List.mem_of_getElem? (i := 3) rfl)
theorem wq_49_4 : Cond.methodLink RX10 330 yX10_isSeen ∈ wsL_law := wr_49 _ (List.mem_of_getElem? (i := 4) rfl)
theorem wq_49_5 : Cond.instanceMethod yX10_isSeen ∈ wsL_law := wr_49 _ (List.mem_of_getElem? (i := 5) rfl)
theorem wq_49_6 : Cond.selects RX10 yX10_isSeen yX10_isSeen ∈ wsL_law := wr_49 _ (List.mem_of_getElem? (i := 6) rfl)
theorem wq_49_7 : Cond.code yX10_isSeen cX10_isSeen 3 (some .boolean) ∈ wsL_law := wr_49 _ (List.mem_of_getElem? (i := 7) rfl)
theorem wq_49_8 : Cond.methodLink RL 223 yX9_sources ∈ wsL_law := wr_49 _ (List.mem_of_getElem? (i := 8) rfl)
theorem wq_49_9 : Cond.instanceMethod yX9_sources ∈ wsL_law := wr_49 _ (List.mem_of_getElem? (i := 9) rfl)
theorem wq_49_10 : Cond.selects RX9 yX9_sources yX9_sources ∈ wsL_law := wr_49 _ (List.mem_of_getElem? (i := 10) rfl)
theorem wq_49_11 : Cond.code yX9_sources cX9_sources 3 (some .int) ∈ wsL_law := wr_49 _ (List.mem_of_getElem? (i := 11) rfl)
theorem wq_49_12 : Cond.methodLink RL 226 yX10_sources ∈ wsL_law := wr_49 _ (List.mem_of_getElem? (i := 12) rfl)
theorem wq_49_13 : Cond.instanceMethod yX10_sources ∈ wsL_law := wr_49 _ (List.mem_of_getElem? (i := 13) rfl)
theorem wq_49_14 : Cond.selects RX10 yX10_sources yX10_sources ∈ wsL_law := wr_49 _ (List.mem_of_getElem? (i := 14) rfl)
theorem wq_49_15 : Cond.code yX10_sources cX10_sources 5 (some .int) ∈ wsL_law := wr_49 _ (List.mem_of_getElem? (i := 15) rfl)
theorem wq_49_16 : Cond.methodLink RL 227 yX9_source ∈ wsL_law := wr_49 _ (List.mem_of_getElem? (i := 16) rfl)
theorem wq_49_17 : Cond.instanceMethod yX9_source ∈ wsL_law := wr_49 _ (List.mem_of_getElem? (i := 17) rfl)
theorem wq_49_18 : Cond.selects RX9 yX9_source yX9_source ∈ wsL_law := wr_49 _ (List.mem_of_getElem? (i := 18) rfl)
theorem wq_49_19 : Cond.code yX9_source cX9_source 3 (some .int) ∈ wsL_law := wr_49 _ (List.mem_of_getElem? (i := 19) rfl)
theorem wq_49_20 : Cond.methodLink RL 230 yX10_source ∈ wsL_law := wr_49 _ (List.mem_of_getElem? (i := 20) rfl)
theorem wq_49_21 : Cond.instanceMethod yX10_source ∈ wsL_law := wr_49 _ (List.mem_of_getElem? (i := 21) rfl)
theorem wq_49_22 : Cond.selects RX10 yX10_source yX10_source ∈ wsL_law := wr_49 _ (List.mem_of_getElem? (i := 22) rfl)
theorem wq_49_23 : Cond.code yX10_source cX10_source 3 (some .int) ∈ wsL_law := wr_49 _ (List.mem_of_getElem? (i := 23) rfl)
theorem wq_50_0 : Cond.methodLink RL 231 yX9_ask ∈ wsL_law := wr_50 _ (List.mem_of_getElem? (i := 0) rfl)
theorem wq_50_1 : Cond.instanceMethod yX9_ask ∈ wsL_law := wr_50 _ (List.mem_of_getElem? (i := 1) rfl)
theorem wq_50_2 : Cond.selects RX9 yX9_ask yX9_ask ∈ wsL_law := wr_50 _ (List.mem_of_getElem? (i := 2) rfl)
theorem wq_50_3 : Cond.code yX9_ask cX9_ask 3 (some .int) ∈ wsL_law := wr_50 _ (List.mem_of_getElem? (i := 3) rfl)
theorem wq_50_4 : Cond.instanceMethod yX4_bestStep ∈ wsL_law := wr_50 _ (List.mem_of_getElem? (i := 4) rfl)
theorem wq_50_5 : Cond.selects RX4 yX4_bestStep yX4_bestStep ∈ wsL_law := wr_50 _ (List.mem_of_getElem? (i := 5) rfl)
theorem wq_50_6 : Cond.code yX4_bestStep cX4_bestStep 5 (some .int) ∈ wsL_law := wr_50 _ (List.mem_of_getElem? (i := 6) rfl)
theorem wq_50_7 : Cond.methodLink RX4 45 yX4_leftAtWorst ∈ wsL_law := wr_50 _ (List.mem_of_getElem? (i := 7) rfl)
theorem wq_50_8 : Cond.instanceMethod yX4_leftAtWorst ∈ wsL_law := wr_50 _ (List.mem_of_getElem? (i := 8) rfl)
theorem wq_50_9 : Cond.selects RX4 yX4_leftAtWorst yX4_leftAtWorst ∈ wsL_law := wr_50 _ (List.mem_of_getElem? (i := 9) rfl)
theorem wq_50_10 : Cond.code yX4_leftAtWorst cX4_leftAtWorst 4 (some .int) ∈ wsL_law := wr_50 _ (List.mem_of_getElem? (i := 10) rfl)
theorem wq_50_11 : Cond.methodLink RX4 39 Lib.Math.max.name ∈ wsL_law := wr_50 _ (List.mem_of_getElem? (i := 11) rfl)
theorem wq_50_12 : Cond.methodLink RL 234 yX10_ask ∈ wsL_law := wr_50 _ (List.mem_of_getElem? (i := 12) rfl)
theorem wq_50_13 : Cond.instanceMethod yX10_ask ∈ wsL_law := wr_50 _ (List.mem_of_getElem? (i := 13) rfl)
theorem wq_50_14 : Cond.selects RX10 yX10_ask yX10_ask ∈ wsL_law := wr_50 _ (List.mem_of_getElem? (i := 14) rfl)
theorem wq_50_15 : Cond.code yX10_ask cX10_ask 3 (some .int) ∈ wsL_law := wr_50 _ (List.mem_of_getElem? (i := 15) rfl)
theorem wq_50_16 : Cond.methodLink RX10 339 yX10_askOf ∈ wsL_law := wr_50 _ (List.mem_of_getElem? (i := 16) rfl)
theorem wq_50_17 : Cond.instanceMethod yX10_askOf ∈ wsL_law := wr_50 _ (List.mem_of_getElem? (i := 17) rfl)
theorem wq_50_18 : Cond.selects RX10 yX10_askOf yX10_askOf ∈ wsL_law := wr_50 _ (List.mem_of_getElem? (i := 18) rfl)
theorem wq_50_19 : Cond.code yX10_askOf cX10_askOf 7 (some .int) ∈ wsL_law := wr_50 _ (List.mem_of_getElem? (i := 19) rfl)
theorem wq_50_20 : Cond.fieldLink RX10 336 "QuotedRiverModel" "askWorst" "I" ∈ wsL_law := wr_50 _ (List.mem_of_getElem? (i := 20) rfl)
theorem wq_50_21 : Cond.methodLink RL 235 yX9_doubts ∈ wsL_law := wr_50 _ (List.mem_of_getElem? (i := 21) rfl)
theorem wq_50_22 : Cond.instanceMethod yX9_doubts ∈ wsL_law := wr_50 _ (List.mem_of_getElem? (i := 22) rfl)
theorem wq_50_23 : Cond.selects RX9 yX9_doubts yX9_doubts ∈ wsL_law := wr_50 _ (List.mem_of_getElem? (i := 23) rfl)
theorem wq_51_0 : Cond.code yX9_doubts cX9_doubts 3 (some .int) ∈ wsL_law := wr_51 _ (List.mem_of_getElem? (i := 0) rfl)
theorem wq_51_1 : Cond.instanceMethod yX4_leastLeft ∈ wsL_law := wr_51 _ (List.mem_of_getElem? (i := 1) rfl)
theorem wq_51_2 : Cond.selects RX4 yX4_leastLeft yX4_leastLeft ∈ wsL_law := wr_51 _ (List.mem_of_getElem? (i := 2) rfl)
theorem wq_51_3 : Cond.code yX4_leastLeft cX4_leastLeft 2 (some .int) ∈ wsL_law := wr_51 _ (List.mem_of_getElem? (i := 3) rfl)
theorem wq_51_4 : Cond.methodLink RX4 48 yX4_bestStep ∈ wsL_law := wr_51 _ (List.mem_of_getElem? (i := 4) rfl)
theorem wq_51_5 : Cond.methodLink RL 238 yX10_doubts ∈ wsL_law := wr_51 _ (List.mem_of_getElem? (i := 5) rfl)
theorem wq_51_6 : Cond.instanceMethod yX10_doubts ∈ wsL_law := wr_51 _ (List.mem_of_getElem? (i := 6) rfl)
theorem wq_51_7 : Cond.selects RX10 yX10_doubts yX10_doubts ∈ wsL_law := wr_51 _ (List.mem_of_getElem? (i := 7) rfl)
theorem wq_51_8 : Cond.code yX10_doubts cX10_doubts 3 (some .int) ∈ wsL_law := wr_51 _ (List.mem_of_getElem? (i := 8) rfl)
theorem wq_51_9 : Cond.methodLink RL 239 yX9_turn ∈ wsL_law := wr_51 _ (List.mem_of_getElem? (i := 9) rfl)
theorem wq_51_10 : Cond.instanceMethod yX9_turn ∈ wsL_law := wr_51 _ (List.mem_of_getElem? (i := 10) rfl)
theorem wq_51_11 : Cond.selects RX9 yX9_turn yX9_turn ∈ wsL_law := wr_51 _ (List.mem_of_getElem? (i := 11) rfl)
theorem wq_51_12 : Cond.code yX9_turn cX9_turn 5 (some .int) ∈ wsL_law := wr_51 _ (List.mem_of_getElem? (i := 12) rfl)
theorem wq_51_13 : Cond.methodLink RX9 310 yX9_refuseTurn ∈ wsL_law := wr_51 _ (List.mem_of_getElem? (i := 13) rfl)
theorem wq_51_14 : Cond.instanceMethod yX9_refuseTurn ∈ wsL_law := wr_51 _ (List.mem_of_getElem? (i := 14) rfl)
theorem wq_51_15 : Cond.selects RX9 yX9_refuseTurn yX9_refuseTurn ∈ wsL_law := wr_51 _ (List.mem_of_getElem? (i := 15) rfl)
theorem wq_51_16 : Cond.code yX9_refuseTurn cX9_refuseTurn 4 (some .int) ∈ wsL_law := wr_51 _ (List.mem_of_getElem? (i := 16) rfl)
theorem wq_51_17 : Cond.methodLink RX9 313 yX9_searchTurns ∈ wsL_law := wr_51 _ (List.mem_of_getElem? (i := 17) rfl)
theorem wq_51_18 : Cond.instanceMethod yX9_searchTurns ∈ wsL_law := wr_51 _ (List.mem_of_getElem? (i := 18) rfl)
theorem wq_51_19 : Cond.selects RX9 yX9_searchTurns yX9_searchTurns ∈ wsL_law := wr_51 _ (List.mem_of_getElem? (i := 19) rfl)
theorem wq_51_20 : Cond.code yX9_searchTurns cX9_searchTurns 7 (some (.object "QuotedRiver$Sources")) ∈ wsL_law := wr_51 _ (List.mem_of_getElem? (i := 20) rfl)
theorem wq_51_21 : Cond.methodLink RL 242 yX10_turn ∈ wsL_law := wr_51 _ (List.mem_of_getElem? (i := 21) rfl)
theorem wq_51_22 : Cond.instanceMethod yX10_turn ∈ wsL_law := wr_51 _ (List.mem_of_getElem? (i := 22) rfl)
theorem wq_51_23 : Cond.selects RX10 yX10_turn yX10_turn ∈ wsL_law := wr_51 _ (List.mem_of_getElem? (i := 23) rfl)
theorem wq_52_0 : Cond.code yX10_turn cX10_turn 4 (some .int) ∈ wsL_law := wr_52 _ (List.mem_of_getElem? (i := 0) rfl)
theorem wq_52_1 : Cond.methodLink RX10 345 yX10_layTurns ∈ wsL_law := wr_52 _ (List.mem_of_getElem? (i := 1) rfl)
theorem wq_52_2 : Cond.instanceMethod yX10_layTurns ∈ wsL_law := wr_52 _ (List.mem_of_getElem? (i := 2) rfl)
theorem wq_52_3 : Cond.selects RX10 yX10_layTurns yX10_layTurns ∈ wsL_law := wr_52 _ (List.mem_of_getElem? (i := 3) rfl)
theorem wq_52_4 : Cond.code yX10_layTurns cX10_layTurns 8 (some .int) ∈ wsL_law := wr_52 _ (List.mem_of_getElem? (i := 4) rfl)
theorem wq_52_5 : Cond.fieldLink RX10 342 "QuotedRiverModel" "turnFirst" "I" ∈ wsL_law := wr_52 _ (List.mem_of_getElem? (i := 5) rfl)
theorem wq_52_6 : Cond.methodLink RL 243 yX9_turned ∈ wsL_law := wr_52 _ (List.mem_of_getElem? (i := 6) rfl)
theorem wq_52_7 : Cond.instanceMethod yX9_turned ∈ wsL_law := wr_52 _ (List.mem_of_getElem? (i := 7) rfl)
theorem wq_52_8 : Cond.selects RX9 yX9_turned yX9_turned ∈ wsL_law := wr_52 _ (List.mem_of_getElem? (i := 8) rfl)
theorem wq_52_9 : Cond.code yX9_turned cX9_turned 5 (some .int) ∈ wsL_law := wr_52 _ (List.mem_of_getElem? (i := 9) rfl)
theorem wq_52_10 : Cond.methodLink RL 246 yX10_turned ∈ wsL_law := wr_52 _ (List.mem_of_getElem? (i := 10) rfl)
theorem wq_52_11 : Cond.instanceMethod yX10_turned ∈ wsL_law := wr_52 _ (List.mem_of_getElem? (i := 11) rfl)
theorem wq_52_12 : Cond.selects RX10 yX10_turned yX10_turned ∈ wsL_law := wr_52 _ (List.mem_of_getElem? (i := 12) rfl)
theorem wq_52_13 : Cond.code yX10_turned cX10_turned 5 (some .int) ∈ wsL_law := wr_52 _ (List.mem_of_getElem? (i := 13) rfl)
theorem wq_52_14 : Cond.methodLink RL 247 yX9_rests ∈ wsL_law := wr_52 _ (List.mem_of_getElem? (i := 14) rfl)
theorem wq_52_15 : Cond.instanceMethod yX9_rests ∈ wsL_law := wr_52 _ (List.mem_of_getElem? (i := 15) rfl)
theorem wq_52_16 : Cond.selects RX9 yX9_rests yX9_rests ∈ wsL_law := wr_52 _ (List.mem_of_getElem? (i := 16) rfl)
theorem wq_52_17 : Cond.code yX9_rests cX9_rests 4 (some .int) ∈ wsL_law := wr_52 _ (List.mem_of_getElem? (i := 17) rfl)
theorem wq_52_18 : Cond.methodLink RX9 323 yX9_isRest ∈ wsL_law := wr_52 _ (List.mem_of_getElem? (i := 18) rfl)
theorem wq_52_19 : Cond.static yX9_isRest ∈ wsL_law := wr_52 _ (List.mem_of_getElem? (i := 19) rfl)
theorem wq_52_20 : Cond.code yX9_isRest cX9_isRest 2 (some .boolean) ∈ wsL_law := wr_52 _ (List.mem_of_getElem? (i := 20) rfl)
theorem wq_52_21 : Cond.methodLink RL 250 yX10_rests ∈ wsL_law := wr_52 _ (List.mem_of_getElem? (i := 21) rfl)
theorem wq_52_22 : Cond.instanceMethod yX10_rests ∈ wsL_law := wr_52 _ (List.mem_of_getElem? (i := 22) rfl)
theorem wq_52_23 : Cond.selects RX10 yX10_rests yX10_rests ∈ wsL_law := wr_52 _ (List.mem_of_getElem? (i := 23) rfl)
theorem wq_53_0 : Cond.code yX10_rests cX10_rests 3 (some .int) ∈ wsL_law := wr_53 _ (List.mem_of_getElem? (i := 0) rfl)
theorem wq_53_1 : Cond.methodLink RX10 352 yX10_isRest ∈ wsL_law := wr_53 _ (List.mem_of_getElem? (i := 1) rfl)
theorem wq_53_2 : Cond.static yX10_isRest ∈ wsL_law := wr_53 _ (List.mem_of_getElem? (i := 2) rfl)
theorem wq_53_3 : Cond.code yX10_isRest cX10_isRest 3 (some .boolean) ∈ wsL_law := wr_53 _ (List.mem_of_getElem? (i := 3) rfl)
theorem wq_53_4 : Cond.methodLink RL 251 yX9_rest ∈ wsL_law := wr_53 _ (List.mem_of_getElem? (i := 4) rfl)
theorem wq_53_5 : Cond.instanceMethod yX9_rest ∈ wsL_law := wr_53 _ (List.mem_of_getElem? (i := 5) rfl)
theorem wq_53_6 : Cond.selects RX9 yX9_rest yX9_rest ∈ wsL_law := wr_53 _ (List.mem_of_getElem? (i := 6) rfl)
theorem wq_53_7 : Cond.code yX9_rest cX9_rest 3 (some .int) ∈ wsL_law := wr_53 _ (List.mem_of_getElem? (i := 7) rfl)
theorem wq_53_8 : Cond.methodLink RL 254 yX10_rest ∈ wsL_law := wr_53 _ (List.mem_of_getElem? (i := 8) rfl)
theorem wq_53_9 : Cond.instanceMethod yX10_rest ∈ wsL_law := wr_53 _ (List.mem_of_getElem? (i := 9) rfl)
theorem wq_53_10 : Cond.selects RX10 yX10_rest yX10_rest ∈ wsL_law := wr_53 _ (List.mem_of_getElem? (i := 10) rfl)
theorem wq_53_11 : Cond.code yX10_rest cX10_rest 2 (some .int) ∈ wsL_law := wr_53 _ (List.mem_of_getElem? (i := 11) rfl)
theorem wq_53_12 : Cond.methodLink RL 255 yX9_has ∈ wsL_law := wr_53 _ (List.mem_of_getElem? (i := 12) rfl)
theorem wq_53_13 : Cond.instanceMethod yX9_has ∈ wsL_law := wr_53 _ (List.mem_of_getElem? (i := 13) rfl)
theorem wq_53_14 : Cond.selects RX9 yX9_has yX9_has ∈ wsL_law := wr_53 _ (List.mem_of_getElem? (i := 14) rfl)
theorem wq_53_15 : Cond.code yX9_has cX9_has 3 (some .int) ∈ wsL_law := wr_53 _ (List.mem_of_getElem? (i := 15) rfl)
theorem wq_53_16 : Cond.methodLink RL 258 yX10_has ∈ wsL_law := wr_53 _ (List.mem_of_getElem? (i := 16) rfl)
theorem wq_53_17 : Cond.instanceMethod yX10_has ∈ wsL_law := wr_53 _ (List.mem_of_getElem? (i := 17) rfl)
theorem wq_53_18 : Cond.selects RX10 yX10_has yX10_has ∈ wsL_law := wr_53 _ (List.mem_of_getElem? (i := 18) rfl)
theorem wq_53_19 : Cond.code yX10_has cX10_has 3 (some .int) ∈ wsL_law := wr_53 _ (List.mem_of_getElem? (i := 19) rfl)
theorem wq_53_20 : Cond.methodLink RL 259 yX9_treaty ∈ wsL_law := wr_53 _ (List.mem_of_getElem? (i := 20) rfl)
theorem wq_53_21 : Cond.instanceMethod yX9_treaty ∈ wsL_law := wr_53 _ (List.mem_of_getElem? (i := 21) rfl)
theorem wq_53_22 : Cond.selects RX9 yX9_treaty yX9_treaty ∈ wsL_law := wr_53 _ (List.mem_of_getElem? (i := 22) rfl)
theorem wq_53_23 : Cond.code yX9_treaty cX9_treaty 4 (some .int) ∈ wsL_law := wr_53 _ (List.mem_of_getElem? (i := 23) rfl)
theorem wq_54_0 : Cond.methodLink RL 262 yX10_treaty ∈ wsL_law := wr_54 _ (List.mem_of_getElem? (i := 0) rfl)
theorem wq_54_1 : Cond.instanceMethod yX10_treaty ∈ wsL_law := wr_54 _ (List.mem_of_getElem? (i := 1) rfl)
theorem wq_54_2 : Cond.selects RX10 yX10_treaty yX10_treaty ∈ wsL_law := wr_54 _ (List.mem_of_getElem? (i := 2) rfl)
theorem wq_54_3 : Cond.code yX10_treaty cX10_treaty 3 (some .int) ∈ wsL_law := wr_54 _ (List.mem_of_getElem? (i := 3) rfl)
theorem wq_54_4 : Cond.methodLink RL 263 yX9_chance ∈ wsL_law := wr_54 _ (List.mem_of_getElem? (i := 4) rfl)
theorem wq_54_5 : Cond.instanceMethod yX9_chance ∈ wsL_law := wr_54 _ (List.mem_of_getElem? (i := 5) rfl)
theorem wq_54_6 : Cond.selects RX9 yX9_chance yX9_chance ∈ wsL_law := wr_54 _ (List.mem_of_getElem? (i := 6) rfl)
theorem wq_54_7 : Cond.code yX9_chance cX9_chance 4 (some .long) ∈ wsL_law := wr_54 _ (List.mem_of_getElem? (i := 7) rfl)
theorem wq_54_8 : Cond.instanceMethod yX0_weightBelow ∈ wsL_law := wr_54 _ (List.mem_of_getElem? (i := 8) rfl)
theorem wq_54_9 : Cond.selects RX0 yX0_weightBelow yX0_weightBelow ∈ wsL_law := wr_54 _ (List.mem_of_getElem? (i := 9) rfl)
theorem wq_54_10 : Cond.code yX0_weightBelow cX0_weightBelow 5 (some .long) ∈ wsL_law := wr_54 _ (List.mem_of_getElem? (i := 10) rfl)
theorem wq_54_11 : Cond.methodLink RL 267 yX10_chance ∈ wsL_law := wr_54 _ (List.mem_of_getElem? (i := 11) rfl)
theorem wq_54_12 : Cond.instanceMethod yX10_chance ∈ wsL_law := wr_54 _ (List.mem_of_getElem? (i := 12) rfl)
theorem wq_54_13 : Cond.selects RX10 yX10_chance yX10_chance ∈ wsL_law := wr_54 _ (List.mem_of_getElem? (i := 13) rfl)
theorem wq_54_14 : Cond.code yX10_chance cX10_chance 8 (some .long) ∈ wsL_law := wr_54 _ (List.mem_of_getElem? (i := 14) rfl)
theorem wq_54_15 : Cond.constantLong RX10 359 (99) ∈ wsL_law := wr_54 _ (List.mem_of_getElem? (i := 15) rfl)
theorem wq_54_16 : Cond.methodLink RL 268 yX9_risk ∈ wsL_law := wr_54 _ (List.mem_of_getElem? (i := 16) rfl)
theorem wq_54_17 : Cond.instanceMethod yX9_risk ∈ wsL_law := wr_54 _ (List.mem_of_getElem? (i := 17) rfl)
theorem wq_54_18 : Cond.selects RX9 yX9_risk yX9_risk ∈ wsL_law := wr_54 _ (List.mem_of_getElem? (i := 18) rfl)
theorem wq_54_19 : Cond.code yX9_risk cX9_risk 5 (some .int) ∈ wsL_law := wr_54 _ (List.mem_of_getElem? (i := 19) rfl)
theorem wq_54_20 : Cond.constantLong RX9 356 (100) ∈ wsL_law := wr_54 _ (List.mem_of_getElem? (i := 20) rfl)
theorem wq_54_21 : Cond.methodLink RL 271 yX10_risk ∈ wsL_law := wr_54 _ (List.mem_of_getElem? (i := 21) rfl)
theorem wq_54_22 : Cond.instanceMethod yX10_risk ∈ wsL_law := wr_54 _ (List.mem_of_getElem? (i := 22) rfl)
theorem wq_54_23 : Cond.selects RX10 yX10_risk yX10_risk ∈ wsL_law := wr_54 _ (List.mem_of_getElem? (i := 23) rfl)
theorem wq_55_0 : Cond.code yX10_risk cX10_risk 4 (some .int) ∈ wsL_law := wr_55 _ (List.mem_of_getElem? (i := 0) rfl)
theorem wq_55_1 : Cond.constantLong RX10 376 (100) ∈ wsL_law := wr_55 _ (List.mem_of_getElem? (i := 1) rfl)
theorem wq_55_2 : Cond.methodLink RL 272 yX9_close ∈ wsL_law := wr_55 _ (List.mem_of_getElem? (i := 2) rfl)
theorem wq_55_3 : Cond.instanceMethod yX9_close ∈ wsL_law := wr_55 _ (List.mem_of_getElem? (i := 3) rfl)
theorem wq_55_4 : Cond.selects RX9 yX9_close yX9_close ∈ wsL_law := wr_55 _ (List.mem_of_getElem? (i := 4) rfl)
theorem wq_55_5 : Cond.code yX9_close cX9_close 4 (some .int) ∈ wsL_law := wr_55 _ (List.mem_of_getElem? (i := 5) rfl)
theorem wq_55_6 : Cond.instanceMethod yX2_addAct ∈ wsL_law := wr_55 _ (List.mem_of_getElem? (i := 6) rfl)
theorem wq_55_7 : Cond.selects RX2 yX2_addAct yX2_addAct ∈ wsL_law := wr_55 _ (List.mem_of_getElem? (i := 7) rfl)
theorem wq_55_8 : Cond.code yX2_addAct cX2_addAct 4 none ∈ wsL_law := wr_55 _ (List.mem_of_getElem? (i := 8) rfl)
theorem wq_55_9 : Cond.methodLink RL 275 yX10_close ∈ wsL_law := wr_55 _ (List.mem_of_getElem? (i := 9) rfl)
theorem wq_55_10 : Cond.instanceMethod yX10_close ∈ wsL_law := wr_55 _ (List.mem_of_getElem? (i := 10) rfl)
theorem wq_55_11 : Cond.selects RX10 yX10_close yX10_close ∈ wsL_law := wr_55 _ (List.mem_of_getElem? (i := 11) rfl)
theorem wq_55_12 : Cond.code yX10_close cX10_close 4 (some .int) ∈ wsL_law := wr_55 _ (List.mem_of_getElem? (i := 12) rfl)
theorem wq_55_13 : Cond.methodLink RX10 378 yX10_keepAct ∈ wsL_law := wr_55 _ (List.mem_of_getElem? (i := 13) rfl)
theorem wq_55_14 : Cond.instanceMethod yX10_keepAct ∈ wsL_law := wr_55 _ (List.mem_of_getElem? (i := 14) rfl)
theorem wq_55_15 : Cond.selects RX10 yX10_keepAct yX10_keepAct ∈ wsL_law := wr_55 _ (List.mem_of_getElem? (i := 15) rfl)
theorem wq_55_16 : Cond.code yX10_keepAct cX10_keepAct 2 (some .int) ∈ wsL_law := wr_55 _ (List.mem_of_getElem? (i := 16) rfl)
theorem wq_55_17 : Cond.methodLink RL 276 yX9_pours ∈ wsL_law := wr_55 _ (List.mem_of_getElem? (i := 17) rfl)
theorem wq_55_18 : Cond.instanceMethod yX9_pours ∈ wsL_law := wr_55 _ (List.mem_of_getElem? (i := 18) rfl)
theorem wq_55_19 : Cond.selects RX9 yX9_pours yX9_pours ∈ wsL_law := wr_55 _ (List.mem_of_getElem? (i := 19) rfl)
theorem wq_55_20 : Cond.code yX9_pours cX9_pours 3 (some .int) ∈ wsL_law := wr_55 _ (List.mem_of_getElem? (i := 20) rfl)
theorem wq_55_21 : Cond.methodLink RL 279 yX10_pours ∈ wsL_law := wr_55 _ (List.mem_of_getElem? (i := 21) rfl)
theorem wq_55_22 : Cond.instanceMethod yX10_pours ∈ wsL_law := wr_55 _ (List.mem_of_getElem? (i := 22) rfl)
theorem wq_55_23 : Cond.selects RX10 yX10_pours yX10_pours ∈ wsL_law := wr_55 _ (List.mem_of_getElem? (i := 23) rfl)
theorem wq_56_0 : Cond.code yX10_pours cX10_pours 3 (some .int) ∈ wsL_law := wr_56 _ (List.mem_of_getElem? (i := 0) rfl)
theorem wq_56_1 : Cond.constantLong RX10 381 (30) ∈ wsL_law := wr_56 _ (List.mem_of_getElem? (i := 1) rfl)
theorem wq_56_2 : Cond.methodLink RL 280 yX9_undo ∈ wsL_law := wr_56 _ (List.mem_of_getElem? (i := 2) rfl)
theorem wq_56_3 : Cond.instanceMethod yX9_undo ∈ wsL_law := wr_56 _ (List.mem_of_getElem? (i := 3) rfl)
theorem wq_56_4 : Cond.selects RX9 yX9_undo yX9_undo ∈ wsL_law := wr_56 _ (List.mem_of_getElem? (i := 4) rfl)
theorem wq_56_5 : Cond.code yX9_undo cX9_undo 1 (some .int) ∈ wsL_law := wr_56 _ (List.mem_of_getElem? (i := 5) rfl)
theorem wq_56_6 : Cond.methodLink RL 283 yX10_undo ∈ wsL_law := wr_56 _ (List.mem_of_getElem? (i := 6) rfl)
theorem wq_56_7 : Cond.instanceMethod yX10_undo ∈ wsL_law := wr_56 _ (List.mem_of_getElem? (i := 7) rfl)
theorem wq_56_8 : Cond.selects RX10 yX10_undo yX10_undo ∈ wsL_law := wr_56 _ (List.mem_of_getElem? (i := 8) rfl)
theorem wq_56_9 : Cond.code yX10_undo cX10_undo 1 (some .int) ∈ wsL_law := wr_56 _ (List.mem_of_getElem? (i := 9) rfl)
theorem wq_56_10 : Cond.methodLink RL 284 yX9_anew ∈ wsL_law := wr_56 _ (List.mem_of_getElem? (i := 10) rfl)
theorem wq_56_11 : Cond.instanceMethod yX9_anew ∈ wsL_law := wr_56 _ (List.mem_of_getElem? (i := 11) rfl)
theorem wq_56_12 : Cond.selects RX9 yX9_anew yX9_anew ∈ wsL_law := wr_56 _ (List.mem_of_getElem? (i := 12) rfl)
theorem wq_56_13 : Cond.code yX9_anew cX9_anew 2 (some .int) ∈ wsL_law := wr_56 _ (List.mem_of_getElem? (i := 13) rfl)
theorem wq_56_14 : Cond.methodLink RL 287 yX10_anew ∈ wsL_law := wr_56 _ (List.mem_of_getElem? (i := 14) rfl)
theorem wq_56_15 : Cond.instanceMethod yX10_anew ∈ wsL_law := wr_56 _ (List.mem_of_getElem? (i := 15) rfl)
theorem wq_56_16 : Cond.selects RX10 yX10_anew yX10_anew ∈ wsL_law := wr_56 _ (List.mem_of_getElem? (i := 16) rfl)
theorem wq_56_17 : Cond.code yX10_anew cX10_anew 2 (some .int) ∈ wsL_law := wr_56 _ (List.mem_of_getElem? (i := 17) rfl)
theorem wq_56_18 : Cond.methodLink RL 288 yX9_drawn ∈ wsL_law := wr_56 _ (List.mem_of_getElem? (i := 18) rfl)
theorem wq_56_19 : Cond.instanceMethod yX9_drawn ∈ wsL_law := wr_56 _ (List.mem_of_getElem? (i := 19) rfl)
theorem wq_56_20 : Cond.selects RX9 yX9_drawn yX9_drawn ∈ wsL_law := wr_56 _ (List.mem_of_getElem? (i := 20) rfl)
theorem wq_56_21 : Cond.code yX9_drawn cX9_drawn 4 (some .int) ∈ wsL_law := wr_56 _ (List.mem_of_getElem? (i := 21) rfl)
theorem wq_56_22 : Cond.methodLink RX9 358 yX9_isSeed ∈ wsL_law := wr_56 _ (List.mem_of_getElem? (i := 22) rfl)
theorem wq_56_23 : Cond.static yX9_isSeed ∈ wsL_law := wr_56 _ (List.mem_of_getElem? (i := 23) rfl)
theorem wq_57_0 : Cond.code yX9_isSeed cX9_isSeed 1 (some .boolean) ∈ wsL_law := wr_57 _ (List.mem_of_getElem? (i := 0) rfl)
theorem wq_57_1 : Cond.constant RX9 413 (2000000000) ∈ wsL_law := wr_57 _ (List.mem_of_getElem? (i := 1) rfl)
theorem wq_57_2 : Cond.methodLink RX9 361 yX9_drawDay ∈ wsL_law := wr_57 _ (List.mem_of_getElem? (i := 2) rfl)
theorem wq_57_3 : Cond.instanceMethod yX9_drawDay ∈ wsL_law := wr_57 _ (List.mem_of_getElem? (i := 3) rfl)
theorem wq_57_4 : Cond.selects RX9 yX9_drawDay yX9_drawDay ∈ wsL_law := wr_57 _ (List.mem_of_getElem? (i := 4) rfl)
theorem wq_57_5 : Cond.code yX9_drawDay cX9_drawDay 7 (some .int) ∈ wsL_law := wr_57 _ (List.mem_of_getElem? (i := 5) rfl)
theorem wq_57_6 : Cond.constantLong RX9 453 (1103515245) ∈ wsL_law := wr_57 _ (List.mem_of_getElem? (i := 6) rfl)
theorem wq_57_7 : Cond.constantLong RX9 455 (12345) ∈ wsL_law := wr_57 _ (List.mem_of_getElem? (i := 7) rfl)
theorem wq_57_8 : Cond.constantLong RX9 457 (2147483648) ∈ wsL_law := wr_57 _ (List.mem_of_getElem? (i := 8) rfl)
theorem wq_57_9 : Cond.constantLong RX9 459 (65536) ∈ wsL_law := wr_57 _ (List.mem_of_getElem? (i := 9) rfl)
theorem wq_57_10 : Cond.constantLong RX9 461 (10) ∈ wsL_law := wr_57 _ (List.mem_of_getElem? (i := 10) rfl)
theorem wq_57_11 : Cond.methodLink RL 291 yX10_drawn ∈ wsL_law := wr_57 _ (List.mem_of_getElem? (i := 11) rfl)
theorem wq_57_12 : Cond.instanceMethod yX10_drawn ∈ wsL_law := wr_57 _ (List.mem_of_getElem? (i := 12) rfl)
theorem wq_57_13 : Cond.selects RX10 yX10_drawn yX10_drawn ∈ wsL_law := wr_57 _ (List.mem_of_getElem? (i := 13) rfl)
theorem wq_57_14 : Cond.code yX10_drawn cX10_drawn 3 (some .int) ∈ wsL_law := wr_57 _ (List.mem_of_getElem? (i := 14) rfl)
theorem wq_57_15 : Cond.fieldLink RX10 383 "QuotedRiverModel" "rainMany" "I" ∈ wsL_law := wr_57 _ (List.mem_of_getElem? (i := 15) rfl)
theorem wq_57_16 : Cond.methodLink RX10 398 yX10_isSeed ∈ wsL_law := wr_57 _ (List.mem_of_getElem? (i := 16) rfl)
theorem wq_57_17 : Cond.static yX10_isSeed ∈ wsL_law := wr_57 _ (List.mem_of_getElem? (i := 17) rfl)
theorem wq_57_18 : Cond.code yX10_isSeed cX10_isSeed 1 (some .boolean) ∈ wsL_law := wr_57 _ (List.mem_of_getElem? (i := 18) rfl)
theorem wq_57_19 : Cond.constantLong RX10 396 (2000000000) ∈ wsL_law := wr_57 _ (List.mem_of_getElem? (i := 19) rfl)
theorem wq_57_20 : Cond.methodLink RX10 401 yX10_goDrawn ∈ wsL_law := wr_57 _ (List.mem_of_getElem? (i := 20) rfl)
theorem wq_57_21 : Cond.instanceMethod yX10_goDrawn ∈ wsL_law := wr_57 _ (List.mem_of_getElem? (i := 21) rfl)
theorem wq_57_22 : Cond.selects RX10 yX10_goDrawn yX10_goDrawn ∈ wsL_law := wr_57 _ (List.mem_of_getElem? (i := 22) rfl)
theorem wq_57_23 : Cond.code yX10_goDrawn cX10_goDrawn 6 none ∈ wsL_law := wr_57 _ (List.mem_of_getElem? (i := 23) rfl)
theorem wq_58_0 : Cond.constantLong RX10 386 (1103515245) ∈ wsL_law := wr_58 _ (List.mem_of_getElem? (i := 0) rfl)
theorem wq_58_1 : Cond.constantLong RX10 388 (12345) ∈ wsL_law := wr_58 _ (List.mem_of_getElem? (i := 1) rfl)
theorem wq_58_2 : Cond.constantLong RX10 390 (2147483648) ∈ wsL_law := wr_58 _ (List.mem_of_getElem? (i := 2) rfl)
theorem wq_58_3 : Cond.constantLong RX10 392 (65536) ∈ wsL_law := wr_58 _ (List.mem_of_getElem? (i := 3) rfl)
theorem wq_58_4 : Cond.constantLong RX10 394 (10) ∈ wsL_law := wr_58 _ (List.mem_of_getElem? (i := 4) rfl)
theorem wq_58_5 : Cond.methodLink RL 292 yX9_luck ∈ wsL_law := wr_58 _ (List.mem_of_getElem? (i := 5) rfl)
theorem wq_58_6 : Cond.instanceMethod yX9_luck ∈ wsL_law := wr_58 _ (List.mem_of_getElem? (i := 6) rfl)
theorem wq_58_7 : Cond.selects RX9 yX9_luck yX9_luck ∈ wsL_law := wr_58 _ (List.mem_of_getElem? (i := 7) rfl)
theorem wq_58_8 : Cond.code yX9_luck cX9_luck 6 (some .int) ∈ wsL_law := wr_58 _ (List.mem_of_getElem? (i := 8) rfl)
theorem wq_58_9 : Cond.methodLink RL 295 yX10_luck ∈ wsL_law := wr_58 _ (List.mem_of_getElem? (i := 9) rfl)
theorem wq_58_10 : Cond.instanceMethod yX10_luck ∈ wsL_law := wr_58 _ (List.mem_of_getElem? (i := 10) rfl)
theorem wq_58_11 : Cond.selects RX10 yX10_luck yX10_luck ∈ wsL_law := wr_58 _ (List.mem_of_getElem? (i := 11) rfl)
theorem wq_58_12 : Cond.code yX10_luck cX10_luck 6 (some .int) ∈ wsL_law := wr_58 _ (List.mem_of_getElem? (i := 12) rfl)
theorem wq_58_13 : Cond.constantLong RX10 405 (20) ∈ wsL_law := wr_58 _ (List.mem_of_getElem? (i := 13) rfl)
theorem wq_58_14 : Cond.methodLink RL 296 yX9_deepen ∈ wsL_law := wr_58 _ (List.mem_of_getElem? (i := 14) rfl)
theorem wq_58_15 : Cond.instanceMethod yX9_deepen ∈ wsL_law := wr_58 _ (List.mem_of_getElem? (i := 15) rfl)
theorem wq_58_16 : Cond.selects RX9 yX9_deepen yX9_deepen ∈ wsL_law := wr_58 _ (List.mem_of_getElem? (i := 16) rfl)
theorem wq_58_17 : Cond.code yX9_deepen cX9_deepen 4 (some .int) ∈ wsL_law := wr_58 _ (List.mem_of_getElem? (i := 17) rfl)
theorem wq_58_18 : Cond.methodLink RL 299 yX10_deepen ∈ wsL_law := wr_58 _ (List.mem_of_getElem? (i := 18) rfl)
theorem wq_58_19 : Cond.instanceMethod yX10_deepen ∈ wsL_law := wr_58 _ (List.mem_of_getElem? (i := 19) rfl)
theorem wq_58_20 : Cond.selects RX10 yX10_deepen yX10_deepen ∈ wsL_law := wr_58 _ (List.mem_of_getElem? (i := 20) rfl)
theorem wq_58_21 : Cond.code yX10_deepen cX10_deepen 4 (some .int) ∈ wsL_law := wr_58 _ (List.mem_of_getElem? (i := 21) rfl)
theorem wq_58_22 : Cond.methodLink RL 300 yX9_count ∈ wsL_law := wr_58 _ (List.mem_of_getElem? (i := 22) rfl)
theorem wq_58_23 : Cond.instanceMethod yX9_count ∈ wsL_law := wr_58 _ (List.mem_of_getElem? (i := 23) rfl)
theorem wq_59_0 : Cond.selects RX9 yX9_count yX9_count ∈ wsL_law := wr_59 _ (List.mem_of_getElem? (i := 0) rfl)
theorem wq_59_1 : Cond.code yX9_count cX9_count 2 (some .int) ∈ wsL_law := wr_59 _ (List.mem_of_getElem? (i := 1) rfl)
theorem wq_59_2 : Cond.methodLink RX9 378 yX9_rowsThere ∈ wsL_law := wr_59 _ (List.mem_of_getElem? (i := 2) rfl)
theorem wq_59_3 : Cond.instanceMethod yX9_rowsThere ∈ wsL_law := wr_59 _ (List.mem_of_getElem? (i := 3) rfl)
theorem wq_59_4 : Cond.selects RX9 yX9_rowsThere yX9_rowsThere ∈ wsL_law := wr_59 _ (List.mem_of_getElem? (i := 4) rfl)
theorem wq_59_5 : Cond.code yX9_rowsThere cX9_rowsThere 6 (some .int) ∈ wsL_law := wr_59 _ (List.mem_of_getElem? (i := 5) rfl)
theorem wq_59_6 : Cond.methodLink RL 303 yX10_count ∈ wsL_law := wr_59 _ (List.mem_of_getElem? (i := 6) rfl)
theorem wq_59_7 : Cond.instanceMethod yX10_count ∈ wsL_law := wr_59 _ (List.mem_of_getElem? (i := 7) rfl)
theorem wq_59_8 : Cond.selects RX10 yX10_count yX10_count ∈ wsL_law := wr_59 _ (List.mem_of_getElem? (i := 8) rfl)
theorem wq_59_9 : Cond.code yX10_count cX10_count 4 (some .int) ∈ wsL_law := wr_59 _ (List.mem_of_getElem? (i := 9) rfl)
theorem wq_59_10 : Cond.constantLong RX10 407 (7) ∈ wsL_law := wr_59 _ (List.mem_of_getElem? (i := 10) rfl)
theorem wq_59_11 : Cond.methodLink RL 304 yX9_image ∈ wsL_law := wr_59 _ (List.mem_of_getElem? (i := 11) rfl)
theorem wq_59_12 : Cond.instanceMethod yX9_image ∈ wsL_law := wr_59 _ (List.mem_of_getElem? (i := 12) rfl)
theorem wq_59_13 : Cond.selects RX9 yX9_image yX9_image ∈ wsL_law := wr_59 _ (List.mem_of_getElem? (i := 13) rfl)
theorem wq_59_14 : Cond.code yX9_image cX9_image 3 (some .int) ∈ wsL_law := wr_59 _ (List.mem_of_getElem? (i := 14) rfl)
theorem wq_59_15 : Cond.methodLink RX9 381 yX9_imageOf ∈ wsL_law := wr_59 _ (List.mem_of_getElem? (i := 15) rfl)
theorem wq_59_16 : Cond.instanceMethod yX9_imageOf ∈ wsL_law := wr_59 _ (List.mem_of_getElem? (i := 16) rfl)
theorem wq_59_17 : Cond.selects RX9 yX9_imageOf yX9_imageOf ∈ wsL_law := wr_59 _ (List.mem_of_getElem? (i := 17) rfl)
theorem wq_59_18 : Cond.code yX9_imageOf cX9_imageOf 2 (some (.object "QuotedRiver$Rivers")) ∈ wsL_law := wr_59 _ (List.mem_of_getElem? (i := 18) rfl)
theorem wq_59_19 : Cond.methodLink RL 307 yX10_image ∈ wsL_law := wr_59 _ (List.mem_of_getElem? (i := 19) rfl)
theorem wq_59_20 : Cond.instanceMethod yX10_image ∈ wsL_law := wr_59 _ (List.mem_of_getElem? (i := 20) rfl)
theorem wq_59_21 : Cond.selects RX10 yX10_image yX10_image ∈ wsL_law := wr_59 _ (List.mem_of_getElem? (i := 21) rfl)
theorem wq_59_22 : Cond.code yX10_image cX10_image 3 (some .int) ∈ wsL_law := wr_59 _ (List.mem_of_getElem? (i := 22) rfl)
theorem wq_59_23 : Cond.methodLink RL 308 yX9_back ∈ wsL_law := wr_59 _ (List.mem_of_getElem? (i := 23) rfl)
theorem wq_60_0 : Cond.instanceMethod yX9_back ∈ wsL_law := wr_60 _ (List.mem_of_getElem? (i := 0) rfl)
theorem wq_60_1 : Cond.selects RX9 yX9_back yX9_back ∈ wsL_law := wr_60 _ (List.mem_of_getElem? (i := 1) rfl)
theorem wq_60_2 : Cond.code yX9_back cX9_back 3 (some .int) ∈ wsL_law := wr_60 _ (List.mem_of_getElem? (i := 2) rfl)
theorem wq_60_3 : Cond.methodLink RL 311 yX10_back ∈ wsL_law := wr_60 _ (List.mem_of_getElem? (i := 3) rfl)
theorem wq_60_4 : Cond.instanceMethod yX10_back ∈ wsL_law := wr_60 _ (List.mem_of_getElem? (i := 4) rfl)
theorem wq_60_5 : Cond.selects RX10 yX10_back yX10_back ∈ wsL_law := wr_60 _ (List.mem_of_getElem? (i := 5) rfl)
theorem wq_60_6 : Cond.code yX10_back cX10_back 3 (some .int) ∈ wsL_law := wr_60 _ (List.mem_of_getElem? (i := 6) rfl)
theorem wq_60_7 : Cond.methodLink RL 312 yX9_row ∈ wsL_law := wr_60 _ (List.mem_of_getElem? (i := 7) rfl)
theorem wq_60_8 : Cond.instanceMethod yX9_row ∈ wsL_law := wr_60 _ (List.mem_of_getElem? (i := 8) rfl)
theorem wq_60_9 : Cond.selects RX9 yX9_row yX9_row ∈ wsL_law := wr_60 _ (List.mem_of_getElem? (i := 9) rfl)
theorem wq_60_10 : Cond.code yX9_row cX9_row 5 (some .int) ∈ wsL_law := wr_60 _ (List.mem_of_getElem? (i := 10) rfl)
theorem wq_60_11 : Cond.instanceMethod yX3_lay ∈ wsL_law := wr_60 _ (List.mem_of_getElem? (i := 11) rfl)
theorem wq_60_12 : Cond.selects RX3 yX3_lay yX3_lay ∈ wsL_law := wr_60 _ (List.mem_of_getElem? (i := 12) rfl)
theorem wq_60_13 : Cond.code yX3_lay cX3_lay 4 none ∈ wsL_law := wr_60 _ (List.mem_of_getElem? (i := 13) rfl)
theorem wq_60_14 : Cond.methodLink RL 315 yX10_row ∈ wsL_law := wr_60 _ (List.mem_of_getElem? (i := 14) rfl)
theorem wq_60_15 : Cond.instanceMethod yX10_row ∈ wsL_law := wr_60 _ (List.mem_of_getElem? (i := 15) rfl)
theorem wq_60_16 : Cond.selects RX10 yX10_row yX10_row ∈ wsL_law := wr_60 _ (List.mem_of_getElem? (i := 16) rfl)
theorem wq_60_17 : Cond.code yX10_row cX10_row 5 (some .int) ∈ wsL_law := wr_60 _ (List.mem_of_getElem? (i := 17) rfl)
theorem wq_60_18 : Cond.methodLink RL 318 yX9_write ∈ wsL_law := wr_60 _ (List.mem_of_getElem? (i := 18) rfl)
theorem wq_60_19 : Cond.instanceMethod yX9_write ∈ wsL_law := wr_60 _ (List.mem_of_getElem? (i := 19) rfl)
theorem wq_60_20 : Cond.selects RX9 yX9_write yX9_write ∈ wsL_law := wr_60 _ (List.mem_of_getElem? (i := 20) rfl)
theorem wq_60_21 : Cond.code yX9_write cX9_write 6 (some .int) ∈ wsL_law := wr_60 _ (List.mem_of_getElem? (i := 21) rfl)
theorem wq_60_22 : Cond.methodLink RX9 399 yX9_cut ∈ wsL_law := wr_60 _ (List.mem_of_getElem? (i := 22) rfl)
theorem wq_60_23 : Cond.static yX9_cut ∈ wsL_law := wr_60 _ (List.mem_of_getElem? (i := 23) rfl)
theorem wq_61_0 : Cond.code yX9_cut cX9_cut 3 (some .long) ∈ wsL_law := wr_61 _ (List.mem_of_getElem? (i := 0) rfl)
theorem wq_61_1 : Cond.instanceMethod yX3_store ∈ wsL_law := wr_61 _ (List.mem_of_getElem? (i := 1) rfl)
theorem wq_61_2 : Cond.selects RX3 yX3_store yX3_store ∈ wsL_law := wr_61 _ (List.mem_of_getElem? (i := 2) rfl)
theorem wq_61_3 : Cond.code yX3_store cX3_store 4 none ∈ wsL_law := wr_61 _ (List.mem_of_getElem? (i := 3) rfl)
theorem wq_61_4 : Cond.methodLink RL 322 yX10_write ∈ wsL_law := wr_61 _ (List.mem_of_getElem? (i := 4) rfl)
theorem wq_61_5 : Cond.instanceMethod yX10_write ∈ wsL_law := wr_61 _ (List.mem_of_getElem? (i := 5) rfl)
theorem wq_61_6 : Cond.selects RX10 yX10_write yX10_write ∈ wsL_law := wr_61 _ (List.mem_of_getElem? (i := 6) rfl)
theorem wq_61_7 : Cond.code yX10_write cX10_write 5 (some .int) ∈ wsL_law := wr_61 _ (List.mem_of_getElem? (i := 7) rfl)
theorem wq_61_8 : Cond.methodLink RX10 409 yX10_cut ∈ wsL_law := wr_61 _ (List.mem_of_getElem? (i := 8) rfl)
theorem wq_61_9 : Cond.static yX10_cut ∈ wsL_law := wr_61 _ (List.mem_of_getElem? (i := 9) rfl)
theorem wq_61_10 : Cond.code yX10_cut cX10_cut 4 (some .long) ∈ wsL_law := wr_61 _ (List.mem_of_getElem? (i := 10) rfl)
theorem wq_61_11 : Cond.methodLink RL 323 yX9_paste ∈ wsL_law := wr_61 _ (List.mem_of_getElem? (i := 11) rfl)
theorem wq_61_12 : Cond.instanceMethod yX9_paste ∈ wsL_law := wr_61 _ (List.mem_of_getElem? (i := 12) rfl)
theorem wq_61_13 : Cond.selects RX9 yX9_paste yX9_paste ∈ wsL_law := wr_61 _ (List.mem_of_getElem? (i := 13) rfl)
theorem wq_61_14 : Cond.code yX9_paste cX9_paste 11 (some .int) ∈ wsL_law := wr_61 _ (List.mem_of_getElem? (i := 14) rfl)
theorem wq_61_15 : Cond.instanceMethod yX3_reachesOver ∈ wsL_law := wr_61 _ (List.mem_of_getElem? (i := 15) rfl)
theorem wq_61_16 : Cond.selects RX3 yX3_reachesOver yX3_reachesOver ∈ wsL_law := wr_61 _ (List.mem_of_getElem? (i := 16) rfl)
theorem wq_61_17 : Cond.code yX3_reachesOver cX3_reachesOver 3 (some .boolean) ∈ wsL_law := wr_61 _ (List.mem_of_getElem? (i := 17) rfl)
theorem wq_61_18 : Cond.methodLink RL 326 yX10_paste ∈ wsL_law := wr_61 _ (List.mem_of_getElem? (i := 18) rfl)
theorem wq_61_19 : Cond.instanceMethod yX10_paste ∈ wsL_law := wr_61 _ (List.mem_of_getElem? (i := 19) rfl)
theorem wq_61_20 : Cond.selects RX10 yX10_paste yX10_paste ∈ wsL_law := wr_61 _ (List.mem_of_getElem? (i := 20) rfl)
theorem wq_61_21 : Cond.code yX10_paste cX10_paste 7 (some .int) ∈ wsL_law := wr_61 _ (List.mem_of_getElem? (i := 21) rfl)
def nw_r0 : List Cond := [Cond.fieldLinkNest RX9 86 "QuotedRiver$Tape" "size" "I" "QuotedRiver", Cond.fieldLinkNest RX9 97 "QuotedRiver$Reader" "fault" "I" "QuotedRiver", Cond.fieldLinkNest RX9 100 "QuotedRiver$Reader" "rivers" "LQuotedRiver$Rivers;" "QuotedRiver", Cond.fieldLinkNest RX9 114 "QuotedRiver$Reader" "faultPlace" "I" "QuotedRiver", Cond.fieldLinkNest RX9 121 "QuotedRiver$Rivers" "target" "[I" "QuotedRiver", Cond.fieldLinkNest RX9 128 "QuotedRiver$Rivers" "takes" "[I" "QuotedRiver", Cond.fieldLinkNest RX9 131 "QuotedRiver$Rivers" "low" "[I" "QuotedRiver", Cond.fieldLinkNest RX9 137 "QuotedRiver$Rivers" "joinFrom" "[I" "QuotedRiver", Cond.fieldLinkNest RX9 140 "QuotedRiver$Rivers" "joinTo" "[I" "QuotedRiver", Cond.fieldLinkNest RX9 143 "QuotedRiver$Rivers" "joinEach" "[I" "QuotedRiver", Cond.fieldLinkNest RX9 146 "QuotedRiver$Rivers" "joinAt" "[I" "QuotedRiver", Cond.fieldLinkNest RX9 149 "QuotedRiver$Rivers" "rains" "I" "QuotedRiver", Cond.fieldLinkNest RX9 152 "QuotedRiver$Rivers" "rainMuch" "[I" "QuotedRiver", Cond.fieldLinkNest RX9 155 "QuotedRiver$Rivers" "rainStep" "[I" "QuotedRiver", Cond.fieldLinkNest RX9 184 "QuotedRiver$Rivers" "told" "Z" "QuotedRiver", Cond.fieldLinkNest RX9 203 "QuotedRiver$Stick" "inSea" "I" "QuotedRiver", Cond.fieldLinkNest RX9 209 "QuotedRiver$Stick" "visited" "I" "QuotedRiver", Cond.fieldLinkNest RX9 212 "QuotedRiver$Stick" "departures" "I" "QuotedRiver", Cond.fieldLinkNest RX9 215 "QuotedRiver$Stick" "stood" "I" "QuotedRiver", Cond.fieldLinkNest RX9 218 "QuotedRiver$Stick" "byJoin" "I" "QuotedRiver"]
def nw_r1 : List Cond := [Cond.fieldLinkNest RX9 221 "QuotedRiver$Stick" "newest" "I" "QuotedRiver", Cond.fieldLinkNest RX9 224 "QuotedRiver$Stick" "joinsTaken" "I" "QuotedRiver", Cond.fieldLinkNest RX9 227 "QuotedRiver$Stick" "revisit" "I" "QuotedRiver", Cond.fieldLinkNest RX9 230 "QuotedRiver$Rivers" "reaches" "I" "QuotedRiver", Cond.fieldLinkNest RX9 250 "QuotedRiver$Rivers" "joins" "I" "QuotedRiver", Cond.fieldLinkNest RX9 256 "QuotedRiver$Water" "shutJoins" "I" "QuotedRiver", Cond.fieldLinkNest RX9 284 "QuotedRiver$Rivers" "level" "I" "QuotedRiver", Cond.fieldLinkNest RX9 297 "QuotedRiver$Sources" "pairs" "I" "QuotedRiver", Cond.fieldLinkNest RX9 300 "QuotedRiver$Sources" "reaches" "I" "QuotedRiver", Cond.fieldLinkNest RX9 301 "QuotedRiver$Sources" "first" "I" "QuotedRiver", Cond.fieldLinkNest RX9 341 "QuotedRiver$Chances" "whole" "J" "QuotedRiver", Cond.fieldLinkNest RX9 365 "QuotedRiver$Rivers" "acts" "I" "QuotedRiver", Cond.fieldLinkNest RX9 372 "QuotedRiver$Rivers" "odds" "I" "QuotedRiver", Cond.fieldLinkNest RX9 375 "QuotedRiver$Rivers" "swell" "I" "QuotedRiver", Cond.fieldLinkNest RX9 392 "QuotedRiver$Row" "there" "Z" "QuotedRiver", Cond.fieldLinkNest RX9 395 "QuotedRiver$Row" "size" "I" "QuotedRiver", Cond.fieldLinkNest RX9 396 "QuotedRiver$Row" "width" "I" "QuotedRiver", Cond.fieldLinkNest RX1 45 "QuotedRiver$Tokens" "kinds" "[I" "QuotedRiver", Cond.fieldLinkNest RX1 72 "QuotedRiver$Tokens" "places" "[I" "QuotedRiver", Cond.fieldLinkNest RX1 78 "QuotedRiver$Rivers" "told" "Z" "QuotedRiver"]
def nw_r2 : List Cond := [Cond.fieldLinkNest RX1 86 "QuotedRiver$Rivers" "level" "I" "QuotedRiver", Cond.fieldLinkNest RX1 89 "QuotedRiver$Rivers" "odds" "I" "QuotedRiver", Cond.fieldLinkNest RX1 92 "QuotedRiver$Rivers" "swell" "I" "QuotedRiver", Cond.fieldLinkNest RX1 95 "QuotedRiver$Rivers" "reaches" "I" "QuotedRiver", Cond.fieldLinkNest RX1 102 "QuotedRiver$Rivers" "target" "[I" "QuotedRiver", Cond.fieldLinkNest RX1 112 "QuotedRiver$Rivers" "takes" "[I" "QuotedRiver", Cond.fieldLinkNest RX1 115 "QuotedRiver$Rivers" "low" "[I" "QuotedRiver", Cond.fieldLinkNest RX1 118 "QuotedRiver$Rivers" "joins" "I" "QuotedRiver", Cond.fieldLinkNest RX1 121 "QuotedRiver$Rivers" "joinFrom" "[I" "QuotedRiver", Cond.fieldLinkNest RX1 124 "QuotedRiver$Rivers" "joinTo" "[I" "QuotedRiver", Cond.fieldLinkNest RX1 127 "QuotedRiver$Rivers" "joinEach" "[I" "QuotedRiver", Cond.fieldLinkNest RX1 130 "QuotedRiver$Rivers" "joinAt" "[I" "QuotedRiver", Cond.fieldLinkNest RX1 133 "QuotedRiver$Rivers" "rains" "I" "QuotedRiver", Cond.fieldLinkNest RX1 136 "QuotedRiver$Rivers" "rainMuch" "[I" "QuotedRiver", Cond.fieldLinkNest RX1 139 "QuotedRiver$Rivers" "rainStep" "[I" "QuotedRiver", Cond.fieldLinkNest RX1 147 "QuotedRiver$Tokens" "values" "[I" "QuotedRiver", Cond.fieldLinkNest RX5 57 "QuotedRiver$Rivers" "low" "[I" "QuotedRiver", Cond.fieldLinkNest RX5 66 "QuotedRiver$Rivers" "takes" "[I" "QuotedRiver", Cond.fieldLinkNest RX5 69 "QuotedRiver$Water" "shutJoins" "I" "QuotedRiver", Cond.fieldLinkNest RX5 80 "QuotedRiver$Rivers" "joins" "I" "QuotedRiver"]
def nw_r3 : List Cond := [Cond.fieldLinkNest RX5 83 "QuotedRiver$Rivers" "joinFrom" "[I" "QuotedRiver", Cond.fieldLinkNest RX5 90 "QuotedRiver$Rivers" "joinTo" "[I" "QuotedRiver", Cond.fieldLinkNest RX5 93 "QuotedRiver$Rivers" "target" "[I" "QuotedRiver", Cond.fieldLinkNest RX5 99 "QuotedRiver$Row" "size" "I" "QuotedRiver", Cond.fieldLinkNest RX7 25 "QuotedRiver$Tape" "size" "I" "QuotedRiver", Cond.fieldLinkNest RX8 34 "QuotedRiver$Rivers" "rains" "I" "QuotedRiver", Cond.fieldLinkNest RX8 38 "QuotedRiver$Rivers" "rainStep" "[I" "QuotedRiver", Cond.fieldLinkNest RX8 41 "QuotedRiver$Rivers" "rainMuch" "[I" "QuotedRiver", Cond.fieldLinkNest RX8 48 "QuotedRiver$Rivers" "acts" "I" "QuotedRiver", Cond.fieldLinkNest RX8 51 "QuotedRiver$Rivers" "actKind" "[I" "QuotedRiver", Cond.fieldLinkNest RX8 54 "QuotedRiver$Rivers" "actOn" "[I" "QuotedRiver", Cond.fieldLinkNest RX8 57 "QuotedRiver$Rivers" "actBy" "[I" "QuotedRiver", Cond.fieldLinkNest RX8 64 "QuotedRiver$Rivers" "level" "I" "QuotedRiver", Cond.methodLinkNest RX9 9 yX6_init "QuotedRiver", Cond.methodLinkNest RX9 18 yX1_init "QuotedRiver", Cond.methodLinkNest RX9 25 yX2_init "QuotedRiver", Cond.methodLinkNest RX9 43 yX8_init "QuotedRiver", Cond.methodLinkNest RX9 53 yX5_init "QuotedRiver", Cond.methodLinkNest RX9 69 yX4_init "QuotedRiver", Cond.methodLinkNest RX9 76 yX0_init "QuotedRiver"]
def nw_r4 : List Cond := [Cond.methodLinkNest RX9 85 yX3_init "QuotedRiver", Cond.methodLinkNest RX9 89 yX6_append "QuotedRiver", Cond.methodLinkNest RX9 93 yX1_read "QuotedRiver", Cond.methodLinkNest RX9 103 yX2_become "QuotedRiver", Cond.methodLinkNest RX9 107 yX8_settle "QuotedRiver", Cond.methodLinkNest RX9 110 yX2_lines "QuotedRiver", Cond.methodLinkNest RX9 161 yX8_levelAt "QuotedRiver", Cond.methodLinkNest RX9 181 yX8_rainAt "QuotedRiver", Cond.methodLinkNest RX9 200 yX5_spotAt "QuotedRiver", Cond.methodLinkNest RX9 206 yX5_firstIn "QuotedRiver", Cond.methodLinkNest RX9 233 yX5_drift "QuotedRiver", Cond.methodLinkNest RX9 259 yX2_takesTurn "QuotedRiver", Cond.methodLinkNest RX9 277 yX8_become "QuotedRiver", Cond.methodLinkNest RX9 280 yX8_addRain "QuotedRiver", Cond.methodLinkNest RX9 287 yX8_fall "QuotedRiver", Cond.methodLinkNest RX9 304 yX4_bestStep "QuotedRiver", Cond.methodLinkNest RX9 307 yX4_leastLeft "QuotedRiver", Cond.methodLinkNest RX9 337 yX0_weightedSum "QuotedRiver", Cond.methodLinkNest RX9 349 yX0_weightBelow "QuotedRiver", Cond.methodLinkNest RX9 368 yX2_addAct "QuotedRiver"]
def nw_r5 : List Cond := [Cond.methodLinkNest RX9 389 yX3_lay "QuotedRiver", Cond.methodLinkNest RX9 403 yX3_store "QuotedRiver", Cond.methodLinkNest RX9 407 yX3_reachesOver "QuotedRiver", Cond.methodLinkNest RX9 410 yX3_number "QuotedRiver", Cond.methodLinkNest RX9 420 yX5_visitedAhead "QuotedRiver", Cond.methodLinkNest RX9 423 yX3_tellsSpots "QuotedRiver", Cond.methodLinkNest RX9 426 yX4_clear "QuotedRiver", Cond.methodLinkNest RX9 429 yX3_earliestStep "QuotedRiver", Cond.methodLinkNest RX9 432 yX5_wasSeen "QuotedRiver", Cond.methodLinkNest RX9 436 yX4_add "QuotedRiver", Cond.methodLinkNest RX9 439 yX4_note "QuotedRiver", Cond.methodLinkNest RX9 443 yX0_begin "QuotedRiver", Cond.methodLinkNest RX9 446 yX0_advance "QuotedRiver", Cond.methodLinkNest RX1 11 yX7_init "QuotedRiver", Cond.methodLinkNest RX1 20 yX2_init "QuotedRiver", Cond.methodLinkNest RX1 38 yX7_scan "QuotedRiver", Cond.methodLinkNest RX1 42 yX2_clear "QuotedRiver", Cond.methodLinkNest RX1 49 yX9_pick "QuotedRiver", Cond.methodLinkNest RX1 75 yX2_sendToSea "QuotedRiver", Cond.methodLinkNest RX1 105 yX9_put "QuotedRiver"]
def nw_r6 : List Cond := [Cond.methodLinkNest RX2 74 yX9_copy "QuotedRiver", Cond.methodLinkNest RX2 78 yX9_pick "QuotedRiver", Cond.methodLinkNest RX2 82 yX9_put "QuotedRiver", Cond.methodLinkNest RX4 25 yX5_spotAt "QuotedRiver", Cond.methodLinkNest RX4 31 yX9_pick "QuotedRiver", Cond.methodLinkNest RX4 35 yX9_put "QuotedRiver", Cond.methodLinkNest RX5 44 yX9_bit "QuotedRiver", Cond.methodLinkNest RX5 48 yX9_put "QuotedRiver", Cond.methodLinkNest RX5 52 yX8_levelAt "QuotedRiver", Cond.methodLinkNest RX5 62 yX9_pick "QuotedRiver", Cond.methodLinkNest RX5 86 yX2_takesTurn "QuotedRiver", Cond.methodLinkNest RX5 104 yX3_number "QuotedRiver", Cond.methodLinkNest RX6 19 yX9_put "QuotedRiver", Cond.methodLinkNest RX7 28 yX6_byteAt "QuotedRiver", Cond.methodLinkNest RX7 57 yX9_put "QuotedRiver", Cond.methodLinkNest RX7 69 yX6_says "QuotedRiver", Cond.methodLinkNest RX8 22 yX9_pick "QuotedRiver", Cond.methodLinkNest RX8 26 yX9_put "QuotedRiver", Cond.methodLinkNest RX8 30 yX9_copy "QuotedRiver", Cond.methodLinkNest RX8 71 yX9_bit "QuotedRiver"]
def NW : List Cond := nw_r0 ++ (nw_r1 ++ (nw_r2 ++ (nw_r3 ++ (nw_r4 ++ (nw_r5 ++ (nw_r6))))))
theorem nr_0 : ∀ w ∈ nw_r0, w ∈ NW := fun _ h => List.mem_append_left _ h
theorem nr_1 : ∀ w ∈ nw_r1, w ∈ NW := fun _ h => List.mem_append_right _ (List.mem_append_left _ h)
theorem nr_2 : ∀ w ∈ nw_r2, w ∈ NW := fun _ h => List.mem_append_right _ (List.mem_append_right _ (List.mem_append_left _ h))
theorem nr_3 : ∀ w ∈ nw_r3, w ∈ NW := fun _ h => List.mem_append_right _ (List.mem_append_right _ (List.mem_append_right _ (List.mem_append_left _ h)))
theorem nr_4 : ∀ w ∈ nw_r4, w ∈ NW := fun _ h => List.mem_append_right _ (List.mem_append_right _ (List.mem_append_right _ (List.mem_append_right _ (List.mem_append_left _ h))))
theorem nr_5 : ∀ w ∈ nw_r5, w ∈ NW := fun _ h => List.mem_append_right _ (List.mem_append_right _ (List.mem_append_right _ (List.mem_append_right _ (List.mem_append_right _ (List.mem_append_left _ h)))))
theorem nr_6 : ∀ w ∈ nw_r6, w ∈ NW := fun _ h => List.mem_append_right _ (List.mem_append_right _ (List.mem_append_right _ (List.mem_append_right _ (List.mem_append_right _ (List.mem_append_right _ h)))))
theorem nm_0 : Cond.fieldLinkNest RX9 86 "QuotedRiver$Tape" "size" "I" "QuotedRiver" ∈ NW := nr_0 _ (List.mem_of_getElem? (i := 0) rfl)
theorem nm_1 : Cond.fieldLinkNest RX9 97 "QuotedRiver$Reader" "fault" "I" "QuotedRiver" ∈ NW := nr_0 _ (List.mem_of_getElem? (i := 1) rfl)
theorem nm_2 : Cond.fieldLinkNest RX9 100 "QuotedRiver$Reader" "rivers" "LQuotedRiver$Rivers;" "QuotedRiver" ∈ NW := nr_0 _ (List.mem_of_getElem? (i := 2) rfl)
theorem nm_3 : Cond.fieldLinkNest RX9 114 "QuotedRiver$Reader" "faultPlace" "I" "QuotedRiver" ∈ NW := nr_0 _ (List.mem_of_getElem? (i := 3) rfl)
theorem nm_4 : Cond.fieldLinkNest RX9 121 "QuotedRiver$Rivers" "target" "[I" "QuotedRiver" ∈ NW := nr_0 _ (List.mem_of_getElem? (i := 4) rfl)
theorem nm_5 : Cond.fieldLinkNest RX9 128 "QuotedRiver$Rivers" "takes" "[I" "QuotedRiver" ∈ NW := nr_0 _ (List.mem_of_getElem? (i := 5) rfl)
theorem nm_6 : Cond.fieldLinkNest RX9 131 "QuotedRiver$Rivers" "low" "[I" "QuotedRiver" ∈ NW := nr_0 _ (List.mem_of_getElem? (i := 6) rfl)
theorem nm_7 : Cond.fieldLinkNest RX9 137 "QuotedRiver$Rivers" "joinFrom" "[I" "QuotedRiver" ∈ NW := nr_0 _ (List.mem_of_getElem? (i := 7) rfl)
theorem nm_8 : Cond.fieldLinkNest RX9 140 "QuotedRiver$Rivers" "joinTo" "[I" "QuotedRiver" ∈ NW := nr_0 _ (List.mem_of_getElem? (i := 8) rfl)
theorem nm_9 : Cond.fieldLinkNest RX9 143 "QuotedRiver$Rivers" "joinEach" "[I" "QuotedRiver" ∈ NW := nr_0 _ (List.mem_of_getElem? (i := 9) rfl)
theorem nm_10 : Cond.fieldLinkNest RX9 146 "QuotedRiver$Rivers" "joinAt" "[I" "QuotedRiver" ∈ NW := nr_0 _ (List.mem_of_getElem? (i := 10) rfl)
theorem nm_11 : Cond.fieldLinkNest RX9 149 "QuotedRiver$Rivers" "rains" "I" "QuotedRiver" ∈ NW := nr_0 _ (List.mem_of_getElem? (i := 11) rfl)
theorem nm_12 : Cond.fieldLinkNest RX9 152 "QuotedRiver$Rivers" "rainMuch" "[I" "QuotedRiver" ∈ NW := nr_0 _ (List.mem_of_getElem? (i := 12) rfl)
theorem nm_13 : Cond.fieldLinkNest RX9 155 "QuotedRiver$Rivers" "rainStep" "[I" "QuotedRiver" ∈ NW := nr_0 _ (List.mem_of_getElem? (i := 13) rfl)
theorem nm_14 : Cond.fieldLinkNest RX9 184 "QuotedRiver$Rivers" "told" "Z" "QuotedRiver" ∈ NW := nr_0 _ (List.mem_of_getElem? (i := 14) rfl)
theorem nm_15 : Cond.fieldLinkNest RX9 203 "QuotedRiver$Stick" "inSea" "I" "QuotedRiver" ∈ NW := nr_0 _ (List.mem_of_getElem? (i := 15) rfl)
theorem nm_16 : Cond.fieldLinkNest RX9 209 "QuotedRiver$Stick" "visited" "I" "QuotedRiver" ∈ NW := nr_0 _ (List.mem_of_getElem? (i := 16) rfl)
theorem nm_17 : Cond.fieldLinkNest RX9 212 "QuotedRiver$Stick" "departures" "I" "QuotedRiver" ∈ NW := nr_0 _ (List.mem_of_getElem? (i := 17) rfl)
theorem nm_18 : Cond.fieldLinkNest RX9 215 "QuotedRiver$Stick" "stood" "I" "QuotedRiver" ∈ NW := nr_0 _ (List.mem_of_getElem? (i := 18) rfl)
theorem nm_19 : Cond.fieldLinkNest RX9 218 "QuotedRiver$Stick" "byJoin" "I" "QuotedRiver" ∈ NW := nr_0 _ (List.mem_of_getElem? (i := 19) rfl)
theorem nm_20 : Cond.fieldLinkNest RX9 221 "QuotedRiver$Stick" "newest" "I" "QuotedRiver" ∈ NW := nr_1 _ (List.mem_of_getElem? (i := 0) rfl)
theorem nm_21 : Cond.fieldLinkNest RX9 224 "QuotedRiver$Stick" "joinsTaken" "I" "QuotedRiver" ∈ NW := nr_1 _ (List.mem_of_getElem? (i := 1) rfl)
theorem nm_22 : Cond.fieldLinkNest RX9 227 "QuotedRiver$Stick" "revisit" "I" "QuotedRiver" ∈ NW := nr_1 _ (List.mem_of_getElem? (i := 2) rfl)
theorem nm_23 : Cond.fieldLinkNest RX9 230 "QuotedRiver$Rivers" "reaches" "I" "QuotedRiver" ∈ NW := nr_1 _ (List.mem_of_getElem? (i := 3) rfl)
theorem nm_24 : Cond.fieldLinkNest RX9 250 "QuotedRiver$Rivers" "joins" "I" "QuotedRiver" ∈ NW := nr_1 _ (List.mem_of_getElem? (i := 4) rfl)
theorem nm_25 : Cond.fieldLinkNest RX9 256 "QuotedRiver$Water" "shutJoins" "I" "QuotedRiver" ∈ NW := nr_1 _ (List.mem_of_getElem? (i := 5) rfl)
theorem nm_26 : Cond.fieldLinkNest RX9 284 "QuotedRiver$Rivers" "level" "I" "QuotedRiver" ∈ NW := nr_1 _ (List.mem_of_getElem? (i := 6) rfl)
theorem nm_27 : Cond.fieldLinkNest RX9 297 "QuotedRiver$Sources" "pairs" "I" "QuotedRiver" ∈ NW := nr_1 _ (List.mem_of_getElem? (i := 7) rfl)
theorem nm_28 : Cond.fieldLinkNest RX9 300 "QuotedRiver$Sources" "reaches" "I" "QuotedRiver" ∈ NW := nr_1 _ (List.mem_of_getElem? (i := 8) rfl)
theorem nm_29 : Cond.fieldLinkNest RX9 301 "QuotedRiver$Sources" "first" "I" "QuotedRiver" ∈ NW := nr_1 _ (List.mem_of_getElem? (i := 9) rfl)
theorem nm_30 : Cond.fieldLinkNest RX9 341 "QuotedRiver$Chances" "whole" "J" "QuotedRiver" ∈ NW := nr_1 _ (List.mem_of_getElem? (i := 10) rfl)
theorem nm_31 : Cond.fieldLinkNest RX9 365 "QuotedRiver$Rivers" "acts" "I" "QuotedRiver" ∈ NW := nr_1 _ (List.mem_of_getElem? (i := 11) rfl)
theorem nm_32 : Cond.fieldLinkNest RX9 372 "QuotedRiver$Rivers" "odds" "I" "QuotedRiver" ∈ NW := nr_1 _ (List.mem_of_getElem? (i := 12) rfl)
theorem nm_33 : Cond.fieldLinkNest RX9 375 "QuotedRiver$Rivers" "swell" "I" "QuotedRiver" ∈ NW := nr_1 _ (List.mem_of_getElem? (i := 13) rfl)
theorem nm_34 : Cond.fieldLinkNest RX9 392 "QuotedRiver$Row" "there" "Z" "QuotedRiver" ∈ NW := nr_1 _ (List.mem_of_getElem? (i := 14) rfl)
theorem nm_35 : Cond.fieldLinkNest RX9 395 "QuotedRiver$Row" "size" "I" "QuotedRiver" ∈ NW := nr_1 _ (List.mem_of_getElem? (i := 15) rfl)
theorem nm_36 : Cond.fieldLinkNest RX9 396 "QuotedRiver$Row" "width" "I" "QuotedRiver" ∈ NW := nr_1 _ (List.mem_of_getElem? (i := 16) rfl)
theorem nm_37 : Cond.fieldLinkNest RX1 45 "QuotedRiver$Tokens" "kinds" "[I" "QuotedRiver" ∈ NW := nr_1 _ (List.mem_of_getElem? (i := 17) rfl)
theorem nm_38 : Cond.fieldLinkNest RX1 72 "QuotedRiver$Tokens" "places" "[I" "QuotedRiver" ∈ NW := nr_1 _ (List.mem_of_getElem? (i := 18) rfl)
theorem nm_39 : Cond.fieldLinkNest RX1 78 "QuotedRiver$Rivers" "told" "Z" "QuotedRiver" ∈ NW := nr_1 _ (List.mem_of_getElem? (i := 19) rfl)
theorem nm_40 : Cond.fieldLinkNest RX1 86 "QuotedRiver$Rivers" "level" "I" "QuotedRiver" ∈ NW := nr_2 _ (List.mem_of_getElem? (i := 0) rfl)
theorem nm_41 : Cond.fieldLinkNest RX1 89 "QuotedRiver$Rivers" "odds" "I" "QuotedRiver" ∈ NW := nr_2 _ (List.mem_of_getElem? (i := 1) rfl)
theorem nm_42 : Cond.fieldLinkNest RX1 92 "QuotedRiver$Rivers" "swell" "I" "QuotedRiver" ∈ NW := nr_2 _ (List.mem_of_getElem? (i := 2) rfl)
theorem nm_43 : Cond.fieldLinkNest RX1 95 "QuotedRiver$Rivers" "reaches" "I" "QuotedRiver" ∈ NW := nr_2 _ (List.mem_of_getElem? (i := 3) rfl)
theorem nm_44 : Cond.fieldLinkNest RX1 102 "QuotedRiver$Rivers" "target" "[I" "QuotedRiver" ∈ NW := nr_2 _ (List.mem_of_getElem? (i := 4) rfl)
theorem nm_45 : Cond.fieldLinkNest RX1 112 "QuotedRiver$Rivers" "takes" "[I" "QuotedRiver" ∈ NW := nr_2 _ (List.mem_of_getElem? (i := 5) rfl)
theorem nm_46 : Cond.fieldLinkNest RX1 115 "QuotedRiver$Rivers" "low" "[I" "QuotedRiver" ∈ NW := nr_2 _ (List.mem_of_getElem? (i := 6) rfl)
theorem nm_47 : Cond.fieldLinkNest RX1 118 "QuotedRiver$Rivers" "joins" "I" "QuotedRiver" ∈ NW := nr_2 _ (List.mem_of_getElem? (i := 7) rfl)
theorem nm_48 : Cond.fieldLinkNest RX1 121 "QuotedRiver$Rivers" "joinFrom" "[I" "QuotedRiver" ∈ NW := nr_2 _ (List.mem_of_getElem? (i := 8) rfl)
theorem nm_49 : Cond.fieldLinkNest RX1 124 "QuotedRiver$Rivers" "joinTo" "[I" "QuotedRiver" ∈ NW := nr_2 _ (List.mem_of_getElem? (i := 9) rfl)
theorem nm_50 : Cond.fieldLinkNest RX1 127 "QuotedRiver$Rivers" "joinEach" "[I" "QuotedRiver" ∈ NW := nr_2 _ (List.mem_of_getElem? (i := 10) rfl)
theorem nm_51 : Cond.fieldLinkNest RX1 130 "QuotedRiver$Rivers" "joinAt" "[I" "QuotedRiver" ∈ NW := nr_2 _ (List.mem_of_getElem? (i := 11) rfl)
theorem nm_52 : Cond.fieldLinkNest RX1 133 "QuotedRiver$Rivers" "rains" "I" "QuotedRiver" ∈ NW := nr_2 _ (List.mem_of_getElem? (i := 12) rfl)
theorem nm_53 : Cond.fieldLinkNest RX1 136 "QuotedRiver$Rivers" "rainMuch" "[I" "QuotedRiver" ∈ NW := nr_2 _ (List.mem_of_getElem? (i := 13) rfl)
theorem nm_54 : Cond.fieldLinkNest RX1 139 "QuotedRiver$Rivers" "rainStep" "[I" "QuotedRiver" ∈ NW := nr_2 _ (List.mem_of_getElem? (i := 14) rfl)
theorem nm_55 : Cond.fieldLinkNest RX1 147 "QuotedRiver$Tokens" "values" "[I" "QuotedRiver" ∈ NW := nr_2 _ (List.mem_of_getElem? (i := 15) rfl)
theorem nm_56 : Cond.fieldLinkNest RX5 57 "QuotedRiver$Rivers" "low" "[I" "QuotedRiver" ∈ NW := nr_2 _ (List.mem_of_getElem? (i := 16) rfl)
theorem nm_57 : Cond.fieldLinkNest RX5 66 "QuotedRiver$Rivers" "takes" "[I" "QuotedRiver" ∈ NW := nr_2 _ (List.mem_of_getElem? (i := 17) rfl)
theorem nm_58 : Cond.fieldLinkNest RX5 69 "QuotedRiver$Water" "shutJoins" "I" "QuotedRiver" ∈ NW := nr_2 _ (List.mem_of_getElem? (i := 18) rfl)
theorem nm_59 : Cond.fieldLinkNest RX5 80 "QuotedRiver$Rivers" "joins" "I" "QuotedRiver" ∈ NW := nr_2 _ (List.mem_of_getElem? (i := 19) rfl)
theorem nm_60 : Cond.fieldLinkNest RX5 83 "QuotedRiver$Rivers" "joinFrom" "[I" "QuotedRiver" ∈ NW := nr_3 _ (List.mem_of_getElem? (i := 0) rfl)
theorem nm_61 : Cond.fieldLinkNest RX5 90 "QuotedRiver$Rivers" "joinTo" "[I" "QuotedRiver" ∈ NW := nr_3 _ (List.mem_of_getElem? (i := 1) rfl)
theorem nm_62 : Cond.fieldLinkNest RX5 93 "QuotedRiver$Rivers" "target" "[I" "QuotedRiver" ∈ NW := nr_3 _ (List.mem_of_getElem? (i := 2) rfl)
theorem nm_63 : Cond.fieldLinkNest RX5 99 "QuotedRiver$Row" "size" "I" "QuotedRiver" ∈ NW := nr_3 _ (List.mem_of_getElem? (i := 3) rfl)
theorem nm_64 : Cond.fieldLinkNest RX7 25 "QuotedRiver$Tape" "size" "I" "QuotedRiver" ∈ NW := nr_3 _ (List.mem_of_getElem? (i := 4) rfl)
theorem nm_65 : Cond.fieldLinkNest RX8 34 "QuotedRiver$Rivers" "rains" "I" "QuotedRiver" ∈ NW := nr_3 _ (List.mem_of_getElem? (i := 5) rfl)
theorem nm_66 : Cond.fieldLinkNest RX8 38 "QuotedRiver$Rivers" "rainStep" "[I" "QuotedRiver" ∈ NW := nr_3 _ (List.mem_of_getElem? (i := 6) rfl)
theorem nm_67 : Cond.fieldLinkNest RX8 41 "QuotedRiver$Rivers" "rainMuch" "[I" "QuotedRiver" ∈ NW := nr_3 _ (List.mem_of_getElem? (i := 7) rfl)
theorem nm_68 : Cond.fieldLinkNest RX8 48 "QuotedRiver$Rivers" "acts" "I" "QuotedRiver" ∈ NW := nr_3 _ (List.mem_of_getElem? (i := 8) rfl)
theorem nm_69 : Cond.fieldLinkNest RX8 51 "QuotedRiver$Rivers" "actKind" "[I" "QuotedRiver" ∈ NW := nr_3 _ (List.mem_of_getElem? (i := 9) rfl)
theorem nm_70 : Cond.fieldLinkNest RX8 54 "QuotedRiver$Rivers" "actOn" "[I" "QuotedRiver" ∈ NW := nr_3 _ (List.mem_of_getElem? (i := 10) rfl)
theorem nm_71 : Cond.fieldLinkNest RX8 57 "QuotedRiver$Rivers" "actBy" "[I" "QuotedRiver" ∈ NW := nr_3 _ (List.mem_of_getElem? (i := 11) rfl)
theorem nm_72 : Cond.fieldLinkNest RX8 64 "QuotedRiver$Rivers" "level" "I" "QuotedRiver" ∈ NW := nr_3 _ (List.mem_of_getElem? (i := 12) rfl)
theorem nm_73 : Cond.methodLinkNest RX9 9 yX6_init "QuotedRiver" ∈ NW := nr_3 _ (List.mem_of_getElem? (i := 13) rfl)
theorem nm_74 : Cond.methodLinkNest RX9 18 yX1_init "QuotedRiver" ∈ NW := nr_3 _ (List.mem_of_getElem? (i := 14) rfl)
theorem nm_75 : Cond.methodLinkNest RX9 25 yX2_init "QuotedRiver" ∈ NW := nr_3 _ (List.mem_of_getElem? (i := 15) rfl)
theorem nm_76 : Cond.methodLinkNest RX9 43 yX8_init "QuotedRiver" ∈ NW := nr_3 _ (List.mem_of_getElem? (i := 16) rfl)
theorem nm_77 : Cond.methodLinkNest RX9 53 yX5_init "QuotedRiver" ∈ NW := nr_3 _ (List.mem_of_getElem? (i := 17) rfl)
theorem nm_78 : Cond.methodLinkNest RX9 69 yX4_init "QuotedRiver" ∈ NW := nr_3 _ (List.mem_of_getElem? (i := 18) rfl)
theorem nm_79 : Cond.methodLinkNest RX9 76 yX0_init "QuotedRiver" ∈ NW := nr_3 _ (List.mem_of_getElem? (i := 19) rfl)
theorem nm_80 : Cond.methodLinkNest RX9 85 yX3_init "QuotedRiver" ∈ NW := nr_4 _ (List.mem_of_getElem? (i := 0) rfl)
theorem nm_81 : Cond.methodLinkNest RX9 89 yX6_append "QuotedRiver" ∈ NW := nr_4 _ (List.mem_of_getElem? (i := 1) rfl)
theorem nm_82 : Cond.methodLinkNest RX9 93 yX1_read "QuotedRiver" ∈ NW := nr_4 _ (List.mem_of_getElem? (i := 2) rfl)
theorem nm_83 : Cond.methodLinkNest RX9 103 yX2_become "QuotedRiver" ∈ NW := nr_4 _ (List.mem_of_getElem? (i := 3) rfl)
theorem nm_84 : Cond.methodLinkNest RX9 107 yX8_settle "QuotedRiver" ∈ NW := nr_4 _ (List.mem_of_getElem? (i := 4) rfl)
theorem nm_85 : Cond.methodLinkNest RX9 110 yX2_lines "QuotedRiver" ∈ NW := nr_4 _ (List.mem_of_getElem? (i := 5) rfl)
theorem nm_86 : Cond.methodLinkNest RX9 161 yX8_levelAt "QuotedRiver" ∈ NW := nr_4 _ (List.mem_of_getElem? (i := 6) rfl)
theorem nm_87 : Cond.methodLinkNest RX9 181 yX8_rainAt "QuotedRiver" ∈ NW := nr_4 _ (List.mem_of_getElem? (i := 7) rfl)
theorem nm_88 : Cond.methodLinkNest RX9 200 yX5_spotAt "QuotedRiver" ∈ NW := nr_4 _ (List.mem_of_getElem? (i := 8) rfl)
theorem nm_89 : Cond.methodLinkNest RX9 206 yX5_firstIn "QuotedRiver" ∈ NW := nr_4 _ (List.mem_of_getElem? (i := 9) rfl)
theorem nm_90 : Cond.methodLinkNest RX9 233 yX5_drift "QuotedRiver" ∈ NW := nr_4 _ (List.mem_of_getElem? (i := 10) rfl)
theorem nm_91 : Cond.methodLinkNest RX9 259 yX2_takesTurn "QuotedRiver" ∈ NW := nr_4 _ (List.mem_of_getElem? (i := 11) rfl)
theorem nm_92 : Cond.methodLinkNest RX9 277 yX8_become "QuotedRiver" ∈ NW := nr_4 _ (List.mem_of_getElem? (i := 12) rfl)
theorem nm_93 : Cond.methodLinkNest RX9 280 yX8_addRain "QuotedRiver" ∈ NW := nr_4 _ (List.mem_of_getElem? (i := 13) rfl)
theorem nm_94 : Cond.methodLinkNest RX9 287 yX8_fall "QuotedRiver" ∈ NW := nr_4 _ (List.mem_of_getElem? (i := 14) rfl)
theorem nm_95 : Cond.methodLinkNest RX9 304 yX4_bestStep "QuotedRiver" ∈ NW := nr_4 _ (List.mem_of_getElem? (i := 15) rfl)
theorem nm_96 : Cond.methodLinkNest RX9 307 yX4_leastLeft "QuotedRiver" ∈ NW := nr_4 _ (List.mem_of_getElem? (i := 16) rfl)
theorem nm_97 : Cond.methodLinkNest RX9 337 yX0_weightedSum "QuotedRiver" ∈ NW := nr_4 _ (List.mem_of_getElem? (i := 17) rfl)
theorem nm_98 : Cond.methodLinkNest RX9 349 yX0_weightBelow "QuotedRiver" ∈ NW := nr_4 _ (List.mem_of_getElem? (i := 18) rfl)
theorem nm_99 : Cond.methodLinkNest RX9 368 yX2_addAct "QuotedRiver" ∈ NW := nr_4 _ (List.mem_of_getElem? (i := 19) rfl)
theorem nm_100 : Cond.methodLinkNest RX9 389 yX3_lay "QuotedRiver" ∈ NW := nr_5 _ (List.mem_of_getElem? (i := 0) rfl)
theorem nm_101 : Cond.methodLinkNest RX9 403 yX3_store "QuotedRiver" ∈ NW := nr_5 _ (List.mem_of_getElem? (i := 1) rfl)
theorem nm_102 : Cond.methodLinkNest RX9 407 yX3_reachesOver "QuotedRiver" ∈ NW := nr_5 _ (List.mem_of_getElem? (i := 2) rfl)
theorem nm_103 : Cond.methodLinkNest RX9 410 yX3_number "QuotedRiver" ∈ NW := nr_5 _ (List.mem_of_getElem? (i := 3) rfl)
theorem nm_104 : Cond.methodLinkNest RX9 420 yX5_visitedAhead "QuotedRiver" ∈ NW := nr_5 _ (List.mem_of_getElem? (i := 4) rfl)
theorem nm_105 : Cond.methodLinkNest RX9 423 yX3_tellsSpots "QuotedRiver" ∈ NW := nr_5 _ (List.mem_of_getElem? (i := 5) rfl)
theorem nm_106 : Cond.methodLinkNest RX9 426 yX4_clear "QuotedRiver" ∈ NW := nr_5 _ (List.mem_of_getElem? (i := 6) rfl)
theorem nm_107 : Cond.methodLinkNest RX9 429 yX3_earliestStep "QuotedRiver" ∈ NW := nr_5 _ (List.mem_of_getElem? (i := 7) rfl)
theorem nm_108 : Cond.methodLinkNest RX9 432 yX5_wasSeen "QuotedRiver" ∈ NW := nr_5 _ (List.mem_of_getElem? (i := 8) rfl)
theorem nm_109 : Cond.methodLinkNest RX9 436 yX4_add "QuotedRiver" ∈ NW := nr_5 _ (List.mem_of_getElem? (i := 9) rfl)
theorem nm_110 : Cond.methodLinkNest RX9 439 yX4_note "QuotedRiver" ∈ NW := nr_5 _ (List.mem_of_getElem? (i := 10) rfl)
theorem nm_111 : Cond.methodLinkNest RX9 443 yX0_begin "QuotedRiver" ∈ NW := nr_5 _ (List.mem_of_getElem? (i := 11) rfl)
theorem nm_112 : Cond.methodLinkNest RX9 446 yX0_advance "QuotedRiver" ∈ NW := nr_5 _ (List.mem_of_getElem? (i := 12) rfl)
theorem nm_113 : Cond.methodLinkNest RX1 11 yX7_init "QuotedRiver" ∈ NW := nr_5 _ (List.mem_of_getElem? (i := 13) rfl)
theorem nm_114 : Cond.methodLinkNest RX1 20 yX2_init "QuotedRiver" ∈ NW := nr_5 _ (List.mem_of_getElem? (i := 14) rfl)
theorem nm_115 : Cond.methodLinkNest RX1 38 yX7_scan "QuotedRiver" ∈ NW := nr_5 _ (List.mem_of_getElem? (i := 15) rfl)
theorem nm_116 : Cond.methodLinkNest RX1 42 yX2_clear "QuotedRiver" ∈ NW := nr_5 _ (List.mem_of_getElem? (i := 16) rfl)
theorem nm_117 : Cond.methodLinkNest RX1 49 yX9_pick "QuotedRiver" ∈ NW := nr_5 _ (List.mem_of_getElem? (i := 17) rfl)
theorem nm_118 : Cond.methodLinkNest RX1 75 yX2_sendToSea "QuotedRiver" ∈ NW := nr_5 _ (List.mem_of_getElem? (i := 18) rfl)
theorem nm_119 : Cond.methodLinkNest RX1 105 yX9_put "QuotedRiver" ∈ NW := nr_5 _ (List.mem_of_getElem? (i := 19) rfl)
theorem nm_120 : Cond.methodLinkNest RX2 74 yX9_copy "QuotedRiver" ∈ NW := nr_6 _ (List.mem_of_getElem? (i := 0) rfl)
theorem nm_121 : Cond.methodLinkNest RX2 78 yX9_pick "QuotedRiver" ∈ NW := nr_6 _ (List.mem_of_getElem? (i := 1) rfl)
theorem nm_122 : Cond.methodLinkNest RX2 82 yX9_put "QuotedRiver" ∈ NW := nr_6 _ (List.mem_of_getElem? (i := 2) rfl)
theorem nm_123 : Cond.methodLinkNest RX4 25 yX5_spotAt "QuotedRiver" ∈ NW := nr_6 _ (List.mem_of_getElem? (i := 3) rfl)
theorem nm_124 : Cond.methodLinkNest RX4 31 yX9_pick "QuotedRiver" ∈ NW := nr_6 _ (List.mem_of_getElem? (i := 4) rfl)
theorem nm_125 : Cond.methodLinkNest RX4 35 yX9_put "QuotedRiver" ∈ NW := nr_6 _ (List.mem_of_getElem? (i := 5) rfl)
theorem nm_126 : Cond.methodLinkNest RX5 44 yX9_bit "QuotedRiver" ∈ NW := nr_6 _ (List.mem_of_getElem? (i := 6) rfl)
theorem nm_127 : Cond.methodLinkNest RX5 48 yX9_put "QuotedRiver" ∈ NW := nr_6 _ (List.mem_of_getElem? (i := 7) rfl)
theorem nm_128 : Cond.methodLinkNest RX5 52 yX8_levelAt "QuotedRiver" ∈ NW := nr_6 _ (List.mem_of_getElem? (i := 8) rfl)
theorem nm_129 : Cond.methodLinkNest RX5 62 yX9_pick "QuotedRiver" ∈ NW := nr_6 _ (List.mem_of_getElem? (i := 9) rfl)
theorem nm_130 : Cond.methodLinkNest RX5 86 yX2_takesTurn "QuotedRiver" ∈ NW := nr_6 _ (List.mem_of_getElem? (i := 10) rfl)
theorem nm_131 : Cond.methodLinkNest RX5 104 yX3_number "QuotedRiver" ∈ NW := nr_6 _ (List.mem_of_getElem? (i := 11) rfl)
theorem nm_132 : Cond.methodLinkNest RX6 19 yX9_put "QuotedRiver" ∈ NW := nr_6 _ (List.mem_of_getElem? (i := 12) rfl)
theorem nm_133 : Cond.methodLinkNest RX7 28 yX6_byteAt "QuotedRiver" ∈ NW := nr_6 _ (List.mem_of_getElem? (i := 13) rfl)
theorem nm_134 : Cond.methodLinkNest RX7 57 yX9_put "QuotedRiver" ∈ NW := nr_6 _ (List.mem_of_getElem? (i := 14) rfl)
theorem nm_135 : Cond.methodLinkNest RX7 69 yX6_says "QuotedRiver" ∈ NW := nr_6 _ (List.mem_of_getElem? (i := 15) rfl)
theorem nm_136 : Cond.methodLinkNest RX8 22 yX9_pick "QuotedRiver" ∈ NW := nr_6 _ (List.mem_of_getElem? (i := 16) rfl)
theorem nm_137 : Cond.methodLinkNest RX8 26 yX9_put "QuotedRiver" ∈ NW := nr_6 _ (List.mem_of_getElem? (i := 17) rfl)
theorem nm_138 : Cond.methodLinkNest RX8 30 yX9_copy "QuotedRiver" ∈ NW := nr_6 _ (List.mem_of_getElem? (i := 18) rfl)
theorem nm_139 : Cond.methodLinkNest RX8 71 yX9_bit "QuotedRiver" ∈ NW := nr_6 _ (List.mem_of_getElem? (i := 19) rfl)
set_option maxRecDepth 100000 in
theorem NW_in : ∀ w ∈ NW, w ∈ tables_1 := fun w h => of_decide_eq_true (List.all_eq_true.mp (show NW.all (fun w => decide (w ∈ tables_1)) = true by decide +kernel) w h)
