section
-- ===== PART A: goes FIRST, ahead of the names: the tables' words, and 'selects' of the private methods out of them =====
/-- a private method of a class that the tables say can be made, by its rows of tables_1 -/
def lw_okq (q : MethodName × Nat) : Prop := (q.1.cls ≠ "java/lang/invoke/MethodHandle" ∧ q.1.cls ≠ "java/lang/invoke/VarHandle") ∧ Cond.instantiable q.1.cls q.2 ∈ tables_1 ∧ Cond.privateMethod q.1 ∈ tables_1 ∧ Cond.instanceMethod q.1 ∈ tables_1
theorem lw_p0 : lw_okq (⟨"PeerOverlay$Plan", "clear", "()V"⟩, 9) := ⟨⟨by decide +kernel, by decide +kernel⟩, List.mem_of_getElem? (i := 31) (by decide +kernel), List.mem_of_getElem? (i := 58) (by decide +kernel), List.mem_of_getElem? (i := 59) (by decide +kernel)⟩
theorem lw_p1 : lw_okq (⟨"PeerOverlay$Score", "useDefault", "()V"⟩, 4) := ⟨⟨by decide +kernel, by decide +kernel⟩, List.mem_of_getElem? (i := 37) (by decide +kernel), List.mem_of_getElem? (i := 62) (by decide +kernel), List.mem_of_getElem? (i := 63) (by decide +kernel)⟩
theorem lw_p2 : lw_okq (⟨"PeerOverlay$Score", "clear", "()V"⟩, 4) := ⟨⟨by decide +kernel, by decide +kernel⟩, List.mem_of_getElem? (i := 37) (by decide +kernel), List.mem_of_getElem? (i := 66) (by decide +kernel), List.mem_of_getElem? (i := 67) (by decide +kernel)⟩
theorem lw_p3 : lw_okq (⟨"PeerOverlay$Score", "put", "(I)V"⟩, 4) := ⟨⟨by decide +kernel, by decide +kernel⟩, List.mem_of_getElem? (i := 37) (by decide +kernel), List.mem_of_getElem? (i := 70) (by decide +kernel), List.mem_of_getElem? (i := 71) (by decide +kernel)⟩
theorem lw_p4 : lw_okq (⟨"PeerOverlay", "putFourBytes", "(I)V"⟩, 10) := ⟨⟨by decide +kernel, by decide +kernel⟩, List.mem_of_getElem? (i := 23) (by decide +kernel), List.mem_of_getElem? (i := 271) (by decide +kernel), List.mem_of_getElem? (i := 272) (by decide +kernel)⟩
theorem lw_p5 : lw_okq (⟨"PeerOverlay$History", "takeBack", "(LPeerOverlay$Situation;)I"⟩, 3) := ⟨⟨by decide +kernel, by decide +kernel⟩, List.mem_of_getElem? (i := 216) (by decide +kernel), List.mem_of_getElem? (i := 295) (by decide +kernel), List.mem_of_getElem? (i := 296) (by decide +kernel)⟩
theorem lw_p6 : lw_okq (⟨"PeerOverlay$Situation", "copyFrom", "(LPeerOverlay$Situation;)V"⟩, 4) := ⟨⟨by decide +kernel, by decide +kernel⟩, List.mem_of_getElem? (i := 115) (by decide +kernel), List.mem_of_getElem? (i := 299) (by decide +kernel), List.mem_of_getElem? (i := 300) (by decide +kernel)⟩
theorem lw_p7 : lw_okq (⟨"PeerOverlay$Session", "copyFrom", "(LPeerOverlay$Session;)V"⟩, 17) := ⟨⟨by decide +kernel, by decide +kernel⟩, List.mem_of_getElem? (i := 122) (by decide +kernel), List.mem_of_getElem? (i := 306) (by decide +kernel), List.mem_of_getElem? (i := 307) (by decide +kernel)⟩
theorem lw_p8 : lw_okq (⟨"java/lang/Throwable", "fillInStackTrace", "(I)Ljava/lang/Throwable;"⟩, 6) := ⟨⟨by decide +kernel, by decide +kernel⟩, List.mem_of_getElem? (i := 357) (by decide +kernel), List.mem_of_getElem? (i := 355) (by decide +kernel), List.mem_of_getElem? (i := 356) (by decide +kernel)⟩
theorem lw_p9 : lw_okq (⟨"PeerOverlay$Reader", "readOverlay", "()I"⟩, 10) := ⟨⟨by decide +kernel, by decide +kernel⟩, List.mem_of_getElem? (i := 386) (by decide +kernel), List.mem_of_getElem? (i := 424) (by decide +kernel), List.mem_of_getElem? (i := 425) (by decide +kernel)⟩
theorem lw_p10 : lw_okq (⟨"PeerOverlay$Reader", "advance", "()V"⟩, 10) := ⟨⟨by decide +kernel, by decide +kernel⟩, List.mem_of_getElem? (i := 386) (by decide +kernel), List.mem_of_getElem? (i := 429) (by decide +kernel), List.mem_of_getElem? (i := 430) (by decide +kernel)⟩
theorem lw_p11 : lw_okq (⟨"PeerOverlay$Reader", "takeWord", "()V"⟩, 10) := ⟨⟨by decide +kernel, by decide +kernel⟩, List.mem_of_getElem? (i := 386) (by decide +kernel), List.mem_of_getElem? (i := 433) (by decide +kernel), List.mem_of_getElem? (i := 434) (by decide +kernel)⟩
theorem lw_p12 : lw_okq (⟨"PeerOverlay$Reader", "takeNumber", "()V"⟩, 10) := ⟨⟨by decide +kernel, by decide +kernel⟩, List.mem_of_getElem? (i := 386) (by decide +kernel), List.mem_of_getElem? (i := 437) (by decide +kernel), List.mem_of_getElem? (i := 438) (by decide +kernel)⟩
theorem lw_p13 : lw_okq (⟨"PeerOverlay$Reader", "takeSign", "()V"⟩, 10) := ⟨⟨by decide +kernel, by decide +kernel⟩, List.mem_of_getElem? (i := 386) (by decide +kernel), List.mem_of_getElem? (i := 441) (by decide +kernel), List.mem_of_getElem? (i := 442) (by decide +kernel)⟩
theorem lw_p14 : lw_okq (⟨"PeerOverlay$Reader", "readStatement", "()V"⟩, 10) := ⟨⟨by decide +kernel, by decide +kernel⟩, List.mem_of_getElem? (i := 386) (by decide +kernel), List.mem_of_getElem? (i := 445) (by decide +kernel), List.mem_of_getElem? (i := 446) (by decide +kernel)⟩
theorem lw_p15 : lw_okq (⟨"PeerOverlay$Reader", "wordIs", "(Ljava/lang/String;)Z"⟩, 10) := ⟨⟨by decide +kernel, by decide +kernel⟩, List.mem_of_getElem? (i := 386) (by decide +kernel), List.mem_of_getElem? (i := 450) (by decide +kernel), List.mem_of_getElem? (i := 451) (by decide +kernel)⟩
def lw_privs_1 : List (MethodName × Nat) := [(⟨"PeerOverlay$Plan", "clear", "()V"⟩, 9), (⟨"PeerOverlay$Score", "useDefault", "()V"⟩, 4), (⟨"PeerOverlay$Score", "clear", "()V"⟩, 4), (⟨"PeerOverlay$Score", "put", "(I)V"⟩, 4), (⟨"PeerOverlay", "putFourBytes", "(I)V"⟩, 10), (⟨"PeerOverlay$History", "takeBack", "(LPeerOverlay$Situation;)I"⟩, 3), (⟨"PeerOverlay$Situation", "copyFrom", "(LPeerOverlay$Situation;)V"⟩, 4), (⟨"PeerOverlay$Session", "copyFrom", "(LPeerOverlay$Session;)V"⟩, 17), (⟨"java/lang/Throwable", "fillInStackTrace", "(I)Ljava/lang/Throwable;"⟩, 6), (⟨"PeerOverlay$Reader", "readOverlay", "()I"⟩, 10), (⟨"PeerOverlay$Reader", "advance", "()V"⟩, 10), (⟨"PeerOverlay$Reader", "takeWord", "()V"⟩, 10), (⟨"PeerOverlay$Reader", "takeNumber", "()V"⟩, 10), (⟨"PeerOverlay$Reader", "takeSign", "()V"⟩, 10), (⟨"PeerOverlay$Reader", "readStatement", "()V"⟩, 10), (⟨"PeerOverlay$Reader", "wordIs", "(Ljava/lang/String;)Z"⟩, 10)]
theorem lw_r1 : ∀ q ∈ lw_privs_1, lw_okq q := List.forall_mem_cons.mpr ⟨lw_p0, List.forall_mem_cons.mpr ⟨lw_p1, List.forall_mem_cons.mpr ⟨lw_p2, List.forall_mem_cons.mpr ⟨lw_p3, List.forall_mem_cons.mpr ⟨lw_p4, List.forall_mem_cons.mpr ⟨lw_p5, List.forall_mem_cons.mpr ⟨lw_p6, List.forall_mem_cons.mpr ⟨lw_p7, List.forall_mem_cons.mpr ⟨lw_p8, List.forall_mem_cons.mpr ⟨lw_p9, List.forall_mem_cons.mpr ⟨lw_p10, List.forall_mem_cons.mpr ⟨lw_p11, List.forall_mem_cons.mpr ⟨lw_p12, List.forall_mem_cons.mpr ⟨lw_p13, List.forall_mem_cons.mpr ⟨lw_p14, List.forall_mem_cons.mpr ⟨lw_p15, fun _ h => absurd h List.not_mem_nil⟩⟩⟩⟩⟩⟩⟩⟩⟩⟩⟩⟩⟩⟩⟩⟩
theorem lw_p16 : lw_okq (⟨"PeerOverlay$Reader", "readPeer", "()V"⟩, 10) := ⟨⟨by decide +kernel, by decide +kernel⟩, List.mem_of_getElem? (i := 386) (by decide +kernel), List.mem_of_getElem? (i := 502) (by decide +kernel), List.mem_of_getElem? (i := 503) (by decide +kernel)⟩
theorem lw_p17 : lw_okq (⟨"PeerOverlay$Reader", "fail", "(I)V"⟩, 10) := ⟨⟨by decide +kernel, by decide +kernel⟩, List.mem_of_getElem? (i := 386) (by decide +kernel), List.mem_of_getElem? (i := 506) (by decide +kernel), List.mem_of_getElem? (i := 507) (by decide +kernel)⟩
theorem lw_p18 : lw_okq (⟨"PeerOverlay$Reader", "readNumber", "(III)I"⟩, 10) := ⟨⟨by decide +kernel, by decide +kernel⟩, List.mem_of_getElem? (i := 386) (by decide +kernel), List.mem_of_getElem? (i := 510) (by decide +kernel), List.mem_of_getElem? (i := 511) (by decide +kernel)⟩
theorem lw_p19 : lw_okq (⟨"PeerOverlay$Plan", "addPeer", "(II)V"⟩, 9) := ⟨⟨by decide +kernel, by decide +kernel⟩, List.mem_of_getElem? (i := 31) (by decide +kernel), List.mem_of_getElem? (i := 514) (by decide +kernel), List.mem_of_getElem? (i := 515) (by decide +kernel)⟩
theorem lw_p20 : lw_okq (⟨"PeerOverlay$Reader", "readLink", "()V"⟩, 10) := ⟨⟨by decide +kernel, by decide +kernel⟩, List.mem_of_getElem? (i := 386) (by decide +kernel), List.mem_of_getElem? (i := 519) (by decide +kernel), List.mem_of_getElem? (i := 520) (by decide +kernel)⟩
theorem lw_p21 : lw_okq (⟨"PeerOverlay$Plan", "addLink", "(III)V"⟩, 9) := ⟨⟨by decide +kernel, by decide +kernel⟩, List.mem_of_getElem? (i := 31) (by decide +kernel), List.mem_of_getElem? (i := 523) (by decide +kernel), List.mem_of_getElem? (i := 524) (by decide +kernel)⟩
theorem lw_p22 : lw_okq (⟨"PeerOverlay$Reader", "readKnows", "()V"⟩, 10) := ⟨⟨by decide +kernel, by decide +kernel⟩, List.mem_of_getElem? (i := 386) (by decide +kernel), List.mem_of_getElem? (i := 528) (by decide +kernel), List.mem_of_getElem? (i := 529) (by decide +kernel)⟩
theorem lw_p23 : lw_okq (⟨"PeerOverlay$Plan", "addAcquaintance", "(II)V"⟩, 9) := ⟨⟨by decide +kernel, by decide +kernel⟩, List.mem_of_getElem? (i := 31) (by decide +kernel), List.mem_of_getElem? (i := 532) (by decide +kernel), List.mem_of_getElem? (i := 533) (by decide +kernel)⟩
theorem lw_p24 : lw_okq (⟨"PeerOverlay$Reader", "beginsOnly", "(I)Z"⟩, 10) := ⟨⟨by decide +kernel, by decide +kernel⟩, List.mem_of_getElem? (i := 386) (by decide +kernel), List.mem_of_getElem? (i := 537) (by decide +kernel), List.mem_of_getElem? (i := 538) (by decide +kernel)⟩
theorem lw_p25 : lw_okq (⟨"PeerOverlay$Reader", "readSum", "(I)V"⟩, 10) := ⟨⟨by decide +kernel, by decide +kernel⟩, List.mem_of_getElem? (i := 386) (by decide +kernel), List.mem_of_getElem? (i := 542) (by decide +kernel), List.mem_of_getElem? (i := 543) (by decide +kernel)⟩
theorem lw_p26 : lw_okq (⟨"PeerOverlay$Reader", "readTerm", "(I)V"⟩, 10) := ⟨⟨by decide +kernel, by decide +kernel⟩, List.mem_of_getElem? (i := 386) (by decide +kernel), List.mem_of_getElem? (i := 546) (by decide +kernel), List.mem_of_getElem? (i := 547) (by decide +kernel)⟩
theorem lw_p27 : lw_okq (⟨"PeerOverlay$Reader", "readFactor", "(I)V"⟩, 10) := ⟨⟨by decide +kernel, by decide +kernel⟩, List.mem_of_getElem? (i := 386) (by decide +kernel), List.mem_of_getElem? (i := 550) (by decide +kernel), List.mem_of_getElem? (i := 551) (by decide +kernel)⟩
theorem lw_p28 : lw_okq (⟨"PeerOverlay$Reader", "readInput", "()V"⟩, 10) := ⟨⟨by decide +kernel, by decide +kernel⟩, List.mem_of_getElem? (i := 386) (by decide +kernel), List.mem_of_getElem? (i := 555) (by decide +kernel), List.mem_of_getElem? (i := 556) (by decide +kernel)⟩
theorem lw_p29 : lw_okq (⟨"PeerOverlay$Reader", "require", "(I)V"⟩, 10) := ⟨⟨by decide +kernel, by decide +kernel⟩, List.mem_of_getElem? (i := 386) (by decide +kernel), List.mem_of_getElem? (i := 564) (by decide +kernel), List.mem_of_getElem? (i := 565) (by decide +kernel)⟩
theorem lw_p30 : lw_okq (⟨"PeerOverlay", "useDraft", "()V"⟩, 10) := ⟨⟨by decide +kernel, by decide +kernel⟩, List.mem_of_getElem? (i := 23) (by decide +kernel), List.mem_of_getElem? (i := 570) (by decide +kernel), List.mem_of_getElem? (i := 571) (by decide +kernel)⟩
theorem lw_p31 : lw_okq (⟨"PeerOverlay$Situation", "beginWith", "(LPeerOverlay$Plan;)V"⟩, 4) := ⟨⟨by decide +kernel, by decide +kernel⟩, List.mem_of_getElem? (i := 115) (by decide +kernel), List.mem_of_getElem? (i := 574) (by decide +kernel), List.mem_of_getElem? (i := 575) (by decide +kernel)⟩
def lw_privs_2 : List (MethodName × Nat) := [(⟨"PeerOverlay$Reader", "readPeer", "()V"⟩, 10), (⟨"PeerOverlay$Reader", "fail", "(I)V"⟩, 10), (⟨"PeerOverlay$Reader", "readNumber", "(III)I"⟩, 10), (⟨"PeerOverlay$Plan", "addPeer", "(II)V"⟩, 9), (⟨"PeerOverlay$Reader", "readLink", "()V"⟩, 10), (⟨"PeerOverlay$Plan", "addLink", "(III)V"⟩, 9), (⟨"PeerOverlay$Reader", "readKnows", "()V"⟩, 10), (⟨"PeerOverlay$Plan", "addAcquaintance", "(II)V"⟩, 9), (⟨"PeerOverlay$Reader", "beginsOnly", "(I)Z"⟩, 10), (⟨"PeerOverlay$Reader", "readSum", "(I)V"⟩, 10), (⟨"PeerOverlay$Reader", "readTerm", "(I)V"⟩, 10), (⟨"PeerOverlay$Reader", "readFactor", "(I)V"⟩, 10), (⟨"PeerOverlay$Reader", "readInput", "()V"⟩, 10), (⟨"PeerOverlay$Reader", "require", "(I)V"⟩, 10), (⟨"PeerOverlay", "useDraft", "()V"⟩, 10), (⟨"PeerOverlay$Situation", "beginWith", "(LPeerOverlay$Plan;)V"⟩, 4)]
theorem lw_r2 : ∀ q ∈ lw_privs_2, lw_okq q := List.forall_mem_cons.mpr ⟨lw_p16, List.forall_mem_cons.mpr ⟨lw_p17, List.forall_mem_cons.mpr ⟨lw_p18, List.forall_mem_cons.mpr ⟨lw_p19, List.forall_mem_cons.mpr ⟨lw_p20, List.forall_mem_cons.mpr ⟨lw_p21, List.forall_mem_cons.mpr ⟨lw_p22, List.forall_mem_cons.mpr ⟨lw_p23, List.forall_mem_cons.mpr ⟨lw_p24, List.forall_mem_cons.mpr ⟨lw_p25, List.forall_mem_cons.mpr ⟨lw_p26, List.forall_mem_cons.mpr ⟨lw_p27, List.forall_mem_cons.mpr ⟨lw_p28, List.forall_mem_cons.mpr ⟨lw_p29, List.forall_mem_cons.mpr ⟨lw_p30, List.forall_mem_cons.mpr ⟨lw_p31, fun _ h => absurd h List.not_mem_nil⟩⟩⟩⟩⟩⟩⟩⟩⟩⟩⟩⟩⟩⟩⟩⟩
theorem lw_p32 : lw_okq (⟨"PeerOverlay$Plan", "delayBetween", "(II)I"⟩, 9) := ⟨⟨by decide +kernel, by decide +kernel⟩, List.mem_of_getElem? (i := 31) (by decide +kernel), List.mem_of_getElem? (i := 578) (by decide +kernel), List.mem_of_getElem? (i := 579) (by decide +kernel)⟩
theorem lw_p33 : lw_okq (⟨"PeerOverlay$History", "forget", "()V"⟩, 3) := ⟨⟨by decide +kernel, by decide +kernel⟩, List.mem_of_getElem? (i := 216) (by decide +kernel), List.mem_of_getElem? (i := 582) (by decide +kernel), List.mem_of_getElem? (i := 583) (by decide +kernel)⟩
theorem lw_p34 : lw_okq (⟨"PeerOverlay", "checkPeers", "(II)V"⟩, 10) := ⟨⟨by decide +kernel, by decide +kernel⟩, List.mem_of_getElem? (i := 23) (by decide +kernel), List.mem_of_getElem? (i := 594) (by decide +kernel), List.mem_of_getElem? (i := 595) (by decide +kernel)⟩
theorem lw_p35 : lw_okq (⟨"PeerOverlay", "checkPeer", "(I)V"⟩, 10) := ⟨⟨by decide +kernel, by decide +kernel⟩, List.mem_of_getElem? (i := 23) (by decide +kernel), List.mem_of_getElem? (i := 598) (by decide +kernel), List.mem_of_getElem? (i := 599) (by decide +kernel)⟩
theorem lw_p36 : lw_okq (⟨"PeerOverlay$Situation", "acquainted", "(II)Z"⟩, 4) := ⟨⟨by decide +kernel, by decide +kernel⟩, List.mem_of_getElem? (i := 115) (by decide +kernel), List.mem_of_getElem? (i := 618) (by decide +kernel), List.mem_of_getElem? (i := 619) (by decide +kernel)⟩
theorem lw_p37 : lw_okq (⟨"PeerOverlay$Situation", "linkIsUp", "(II)Z"⟩, 4) := ⟨⟨by decide +kernel, by decide +kernel⟩, List.mem_of_getElem? (i := 115) (by decide +kernel), List.mem_of_getElem? (i := 629) (by decide +kernel), List.mem_of_getElem? (i := 630) (by decide +kernel)⟩
theorem lw_p38 : lw_okq (⟨"PeerOverlay", "checkTwoPeers", "(II)V"⟩, 10) := ⟨⟨by decide +kernel, by decide +kernel⟩, List.mem_of_getElem? (i := 23) (by decide +kernel), List.mem_of_getElem? (i := 641) (by decide +kernel), List.mem_of_getElem? (i := 642) (by decide +kernel)⟩
theorem lw_p39 : lw_okq (⟨"PeerOverlay$Situation", "stepsBetween", "(II)I"⟩, 4) := ⟨⟨by decide +kernel, by decide +kernel⟩, List.mem_of_getElem? (i := 115) (by decide +kernel), List.mem_of_getElem? (i := 646) (by decide +kernel), List.mem_of_getElem? (i := 647) (by decide +kernel)⟩
theorem lw_p40 : lw_okq (⟨"PeerOverlay$Situation", "loadOf", "(I)I"⟩, 4) := ⟨⟨by decide +kernel, by decide +kernel⟩, List.mem_of_getElem? (i := 115) (by decide +kernel), List.mem_of_getElem? (i := 664) (by decide +kernel), List.mem_of_getElem? (i := 665) (by decide +kernel)⟩
theorem lw_p41 : lw_okq (⟨"PeerOverlay$Session", "leadsOver", "(I)Z"⟩, 17) := ⟨⟨by decide +kernel, by decide +kernel⟩, List.mem_of_getElem? (i := 122) (by decide +kernel), List.mem_of_getElem? (i := 668) (by decide +kernel), List.mem_of_getElem? (i := 669) (by decide +kernel)⟩
theorem lw_p42 : lw_okq (⟨"PeerOverlay$Situation", "chooseRelay", "(LPeerOverlay$Plan;II)I"⟩, 4) := ⟨⟨by decide +kernel, by decide +kernel⟩, List.mem_of_getElem? (i := 115) (by decide +kernel), List.mem_of_getElem? (i := 679) (by decide +kernel), List.mem_of_getElem? (i := 680) (by decide +kernel)⟩
theorem lw_p43 : lw_okq (⟨"PeerOverlay$Situation", "canRelay", "(III)Z"⟩, 4) := ⟨⟨by decide +kernel, by decide +kernel⟩, List.mem_of_getElem? (i := 115) (by decide +kernel), List.mem_of_getElem? (i := 683) (by decide +kernel), List.mem_of_getElem? (i := 684) (by decide +kernel)⟩
theorem lw_p44 : lw_okq (⟨"PeerOverlay$Situation", "scoreOf", "(LPeerOverlay$Plan;III)I"⟩, 4) := ⟨⟨by decide +kernel, by decide +kernel⟩, List.mem_of_getElem? (i := 115) (by decide +kernel), List.mem_of_getElem? (i := 690) (by decide +kernel), List.mem_of_getElem? (i := 691) (by decide +kernel)⟩
theorem lw_p45 : lw_okq (⟨"PeerOverlay$Plan", "zonesCrossed", "(III)I"⟩, 9) := ⟨⟨by decide +kernel, by decide +kernel⟩, List.mem_of_getElem? (i := 31) (by decide +kernel), List.mem_of_getElem? (i := 694) (by decide +kernel), List.mem_of_getElem? (i := 695) (by decide +kernel)⟩
theorem lw_p46 : lw_okq (⟨"PeerOverlay$Score", "worth", "(IIIII)I"⟩, 4) := ⟨⟨by decide +kernel, by decide +kernel⟩, List.mem_of_getElem? (i := 37) (by decide +kernel), List.mem_of_getElem? (i := 698) (by decide +kernel), List.mem_of_getElem? (i := 699) (by decide +kernel)⟩
theorem lw_p47 : lw_okq (⟨"PeerOverlay$Score", "hold", "(I)V"⟩, 4) := ⟨⟨by decide +kernel, by decide +kernel⟩, List.mem_of_getElem? (i := 37) (by decide +kernel), List.mem_of_getElem? (i := 702) (by decide +kernel), List.mem_of_getElem? (i := 703) (by decide +kernel)⟩
def lw_privs_3 : List (MethodName × Nat) := [(⟨"PeerOverlay$Plan", "delayBetween", "(II)I"⟩, 9), (⟨"PeerOverlay$History", "forget", "()V"⟩, 3), (⟨"PeerOverlay", "checkPeers", "(II)V"⟩, 10), (⟨"PeerOverlay", "checkPeer", "(I)V"⟩, 10), (⟨"PeerOverlay$Situation", "acquainted", "(II)Z"⟩, 4), (⟨"PeerOverlay$Situation", "linkIsUp", "(II)Z"⟩, 4), (⟨"PeerOverlay", "checkTwoPeers", "(II)V"⟩, 10), (⟨"PeerOverlay$Situation", "stepsBetween", "(II)I"⟩, 4), (⟨"PeerOverlay$Situation", "loadOf", "(I)I"⟩, 4), (⟨"PeerOverlay$Session", "leadsOver", "(I)Z"⟩, 17), (⟨"PeerOverlay$Situation", "chooseRelay", "(LPeerOverlay$Plan;II)I"⟩, 4), (⟨"PeerOverlay$Situation", "canRelay", "(III)Z"⟩, 4), (⟨"PeerOverlay$Situation", "scoreOf", "(LPeerOverlay$Plan;III)I"⟩, 4), (⟨"PeerOverlay$Plan", "zonesCrossed", "(III)I"⟩, 9), (⟨"PeerOverlay$Score", "worth", "(IIIII)I"⟩, 4), (⟨"PeerOverlay$Score", "hold", "(I)V"⟩, 4)]
theorem lw_r3 : ∀ q ∈ lw_privs_3, lw_okq q := List.forall_mem_cons.mpr ⟨lw_p32, List.forall_mem_cons.mpr ⟨lw_p33, List.forall_mem_cons.mpr ⟨lw_p34, List.forall_mem_cons.mpr ⟨lw_p35, List.forall_mem_cons.mpr ⟨lw_p36, List.forall_mem_cons.mpr ⟨lw_p37, List.forall_mem_cons.mpr ⟨lw_p38, List.forall_mem_cons.mpr ⟨lw_p39, List.forall_mem_cons.mpr ⟨lw_p40, List.forall_mem_cons.mpr ⟨lw_p41, List.forall_mem_cons.mpr ⟨lw_p42, List.forall_mem_cons.mpr ⟨lw_p43, List.forall_mem_cons.mpr ⟨lw_p44, List.forall_mem_cons.mpr ⟨lw_p45, List.forall_mem_cons.mpr ⟨lw_p46, List.forall_mem_cons.mpr ⟨lw_p47, fun _ h => absurd h List.not_mem_nil⟩⟩⟩⟩⟩⟩⟩⟩⟩⟩⟩⟩⟩⟩⟩⟩
theorem lw_p48 : lw_okq (⟨"PeerOverlay$Score", "combine", "(I)V"⟩, 4) := ⟨⟨by decide +kernel, by decide +kernel⟩, List.mem_of_getElem? (i := 37) (by decide +kernel), List.mem_of_getElem? (i := 706) (by decide +kernel), List.mem_of_getElem? (i := 707) (by decide +kernel)⟩
theorem lw_p49 : lw_okq (⟨"PeerOverlay", "checkThreePeers", "(III)V"⟩, 10) := ⟨⟨by decide +kernel, by decide +kernel⟩, List.mem_of_getElem? (i := 23) (by decide +kernel), List.mem_of_getElem? (i := 718) (by decide +kernel), List.mem_of_getElem? (i := 719) (by decide +kernel)⟩
theorem lw_p50 : lw_okq (⟨"PeerOverlay$Situation", "findSession", "(II)I"⟩, 4) := ⟨⟨by decide +kernel, by decide +kernel⟩, List.mem_of_getElem? (i := 115) (by decide +kernel), List.mem_of_getElem? (i := 748) (by decide +kernel), List.mem_of_getElem? (i := 749) (by decide +kernel)⟩
theorem lw_p51 : lw_okq (⟨"PeerOverlay", "openSession", "(I)LPeerOverlay$Session;"⟩, 10) := ⟨⟨by decide +kernel, by decide +kernel⟩, List.mem_of_getElem? (i := 23) (by decide +kernel), List.mem_of_getElem? (i := 759) (by decide +kernel), List.mem_of_getElem? (i := 760) (by decide +kernel)⟩
theorem lw_p52 : lw_okq (⟨"PeerOverlay$Session", "countUndelivered", "(I)I"⟩, 17) := ⟨⟨by decide +kernel, by decide +kernel⟩, List.mem_of_getElem? (i := 122) (by decide +kernel), List.mem_of_getElem? (i := 786) (by decide +kernel), List.mem_of_getElem? (i := 787) (by decide +kernel)⟩
theorem lw_p53 : lw_okq (⟨"PeerOverlay$Session", "firstNeededKey", "()I"⟩, 17) := ⟨⟨by decide +kernel, by decide +kernel⟩, List.mem_of_getElem? (i := 122) (by decide +kernel), List.mem_of_getElem? (i := 828) (by decide +kernel), List.mem_of_getElem? (i := 829) (by decide +kernel)⟩
theorem lw_p54 : lw_okq (⟨"PeerOverlay", "forecastOf", "(I)LPeerOverlay$Session;"⟩, 10) := ⟨⟨by decide +kernel, by decide +kernel⟩, List.mem_of_getElem? (i := 23) (by decide +kernel), List.mem_of_getElem? (i := 846) (by decide +kernel), List.mem_of_getElem? (i := 847) (by decide +kernel)⟩
theorem lw_p55 : lw_okq (⟨"PeerOverlay$Situation", "passTick", "(LPeerOverlay$Plan;)I"⟩, 4) := ⟨⟨by decide +kernel, by decide +kernel⟩, List.mem_of_getElem? (i := 115) (by decide +kernel), List.mem_of_getElem? (i := 851) (by decide +kernel), List.mem_of_getElem? (i := 852) (by decide +kernel)⟩
theorem lw_p56 : lw_okq (⟨"PeerOverlay$Session", "takeArrivals", "(I)I"⟩, 17) := ⟨⟨by decide +kernel, by decide +kernel⟩, List.mem_of_getElem? (i := 122) (by decide +kernel), List.mem_of_getElem? (i := 855) (by decide +kernel), List.mem_of_getElem? (i := 856) (by decide +kernel)⟩
theorem lw_p57 : lw_okq (⟨"PeerOverlay$Situation", "probeIfDue", "(LPeerOverlay$Plan;LPeerOverlay$Session;)V"⟩, 4) := ⟨⟨by decide +kernel, by decide +kernel⟩, List.mem_of_getElem? (i := 115) (by decide +kernel), List.mem_of_getElem? (i := 859) (by decide +kernel), List.mem_of_getElem? (i := 860) (by decide +kernel)⟩
theorem lw_p58 : lw_okq (⟨"PeerOverlay$Situation", "upgrade", "(LPeerOverlay$Plan;LPeerOverlay$Session;)V"⟩, 4) := ⟨⟨by decide +kernel, by decide +kernel⟩, List.mem_of_getElem? (i := 115) (by decide +kernel), List.mem_of_getElem? (i := 863) (by decide +kernel), List.mem_of_getElem? (i := 864) (by decide +kernel)⟩
theorem lw_p59 : lw_okq (⟨"PeerOverlay$Session", "changePath", "(I)V"⟩, 17) := ⟨⟨by decide +kernel, by decide +kernel⟩, List.mem_of_getElem? (i := 122) (by decide +kernel), List.mem_of_getElem? (i := 867) (by decide +kernel), List.mem_of_getElem? (i := 868) (by decide +kernel)⟩
theorem lw_p60 : lw_okq (⟨"PeerOverlay$Session", "takeNextKey", "()V"⟩, 17) := ⟨⟨by decide +kernel, by decide +kernel⟩, List.mem_of_getElem? (i := 122) (by decide +kernel), List.mem_of_getElem? (i := 871) (by decide +kernel), List.mem_of_getElem? (i := 872) (by decide +kernel)⟩
theorem lw_p61 : lw_okq (⟨"PeerOverlay$Plan", "delayAlong", "(LPeerOverlay$Session;)I"⟩, 9) := ⟨⟨by decide +kernel, by decide +kernel⟩, List.mem_of_getElem? (i := 31) (by decide +kernel), List.mem_of_getElem? (i := 875) (by decide +kernel), List.mem_of_getElem? (i := 876) (by decide +kernel)⟩
theorem lw_p62 : lw_okq (⟨"PeerOverlay$Session", "startWaiting", "(I)V"⟩, 17) := ⟨⟨by decide +kernel, by decide +kernel⟩, List.mem_of_getElem? (i := 122) (by decide +kernel), List.mem_of_getElem? (i := 880) (by decide +kernel), List.mem_of_getElem? (i := 881) (by decide +kernel)⟩
theorem lw_p63 : lw_okq (⟨"PeerOverlay$Situation", "seekRelay", "(LPeerOverlay$Plan;LPeerOverlay$Session;)V"⟩, 4) := ⟨⟨by decide +kernel, by decide +kernel⟩, List.mem_of_getElem? (i := 115) (by decide +kernel), List.mem_of_getElem? (i := 884) (by decide +kernel), List.mem_of_getElem? (i := 885) (by decide +kernel)⟩
def lw_privs_4 : List (MethodName × Nat) := [(⟨"PeerOverlay$Score", "combine", "(I)V"⟩, 4), (⟨"PeerOverlay", "checkThreePeers", "(III)V"⟩, 10), (⟨"PeerOverlay$Situation", "findSession", "(II)I"⟩, 4), (⟨"PeerOverlay", "openSession", "(I)LPeerOverlay$Session;"⟩, 10), (⟨"PeerOverlay$Session", "countUndelivered", "(I)I"⟩, 17), (⟨"PeerOverlay$Session", "firstNeededKey", "()I"⟩, 17), (⟨"PeerOverlay", "forecastOf", "(I)LPeerOverlay$Session;"⟩, 10), (⟨"PeerOverlay$Situation", "passTick", "(LPeerOverlay$Plan;)I"⟩, 4), (⟨"PeerOverlay$Session", "takeArrivals", "(I)I"⟩, 17), (⟨"PeerOverlay$Situation", "probeIfDue", "(LPeerOverlay$Plan;LPeerOverlay$Session;)V"⟩, 4), (⟨"PeerOverlay$Situation", "upgrade", "(LPeerOverlay$Plan;LPeerOverlay$Session;)V"⟩, 4), (⟨"PeerOverlay$Session", "changePath", "(I)V"⟩, 17), (⟨"PeerOverlay$Session", "takeNextKey", "()V"⟩, 17), (⟨"PeerOverlay$Plan", "delayAlong", "(LPeerOverlay$Session;)I"⟩, 9), (⟨"PeerOverlay$Session", "startWaiting", "(I)V"⟩, 17), (⟨"PeerOverlay$Situation", "seekRelay", "(LPeerOverlay$Plan;LPeerOverlay$Session;)V"⟩, 4)]
theorem lw_r4 : ∀ q ∈ lw_privs_4, lw_okq q := List.forall_mem_cons.mpr ⟨lw_p48, List.forall_mem_cons.mpr ⟨lw_p49, List.forall_mem_cons.mpr ⟨lw_p50, List.forall_mem_cons.mpr ⟨lw_p51, List.forall_mem_cons.mpr ⟨lw_p52, List.forall_mem_cons.mpr ⟨lw_p53, List.forall_mem_cons.mpr ⟨lw_p54, List.forall_mem_cons.mpr ⟨lw_p55, List.forall_mem_cons.mpr ⟨lw_p56, List.forall_mem_cons.mpr ⟨lw_p57, List.forall_mem_cons.mpr ⟨lw_p58, List.forall_mem_cons.mpr ⟨lw_p59, List.forall_mem_cons.mpr ⟨lw_p60, List.forall_mem_cons.mpr ⟨lw_p61, List.forall_mem_cons.mpr ⟨lw_p62, List.forall_mem_cons.mpr ⟨lw_p63, fun _ h => absurd h List.not_mem_nil⟩⟩⟩⟩⟩⟩⟩⟩⟩⟩⟩⟩⟩⟩⟩⟩
theorem lw_p64 : lw_okq (⟨"PeerOverlay$Session", "dropEmptyOldPath", "()V"⟩, 17) := ⟨⟨by decide +kernel, by decide +kernel⟩, List.mem_of_getElem? (i := 122) (by decide +kernel), List.mem_of_getElem? (i := 889) (by decide +kernel), List.mem_of_getElem? (i := 890) (by decide +kernel)⟩
theorem lw_p65 : lw_okq (⟨"PeerOverlay$History", "keep", "(LPeerOverlay$Situation;)V"⟩, 3) := ⟨⟨by decide +kernel, by decide +kernel⟩, List.mem_of_getElem? (i := 216) (by decide +kernel), List.mem_of_getElem? (i := 909) (by decide +kernel), List.mem_of_getElem? (i := 910) (by decide +kernel)⟩
theorem lw_p66 : lw_okq (⟨"PeerOverlay$Situation", "acquaint", "(II)V"⟩, 4) := ⟨⟨by decide +kernel, by decide +kernel⟩, List.mem_of_getElem? (i := 115) (by decide +kernel), List.mem_of_getElem? (i := 925) (by decide +kernel), List.mem_of_getElem? (i := 926) (by decide +kernel)⟩
theorem lw_p67 : lw_okq (⟨"PeerOverlay$Situation", "freeSession", "()I"⟩, 4) := ⟨⟨by decide +kernel, by decide +kernel⟩, List.mem_of_getElem? (i := 115) (by decide +kernel), List.mem_of_getElem? (i := 942) (by decide +kernel), List.mem_of_getElem? (i := 943) (by decide +kernel)⟩
theorem lw_p68 : lw_okq (⟨"PeerOverlay$Session", "begin", "(IIII)V"⟩, 17) := ⟨⟨by decide +kernel, by decide +kernel⟩, List.mem_of_getElem? (i := 122) (by decide +kernel), List.mem_of_getElem? (i := 949) (by decide +kernel), List.mem_of_getElem? (i := 950) (by decide +kernel)⟩
theorem lw_p69 : lw_okq (⟨"PeerOverlay$Session", "addMessage", "(III)I"⟩, 17) := ⟨⟨by decide +kernel, by decide +kernel⟩, List.mem_of_getElem? (i := 122) (by decide +kernel), List.mem_of_getElem? (i := 962) (by decide +kernel), List.mem_of_getElem? (i := 963) (by decide +kernel)⟩
theorem lw_p70 : lw_okq (⟨"PeerOverlay$Situation", "turnLink", "(II)V"⟩, 4) := ⟨⟨by decide +kernel, by decide +kernel⟩, List.mem_of_getElem? (i := 115) (by decide +kernel), List.mem_of_getElem? (i := 975) (by decide +kernel), List.mem_of_getElem? (i := 976) (by decide +kernel)⟩
theorem lw_p71 : lw_okq (⟨"PeerOverlay$Situation", "leaveLink", "(LPeerOverlay$Plan;II)I"⟩, 4) := ⟨⟨by decide +kernel, by decide +kernel⟩, List.mem_of_getElem? (i := 115) (by decide +kernel), List.mem_of_getElem? (i := 979) (by decide +kernel), List.mem_of_getElem? (i := 980) (by decide +kernel)⟩
theorem lw_p72 : lw_okq (⟨"PeerOverlay$Situation", "leavePaths", "(LPeerOverlay$Plan;LPeerOverlay$Session;II)V"⟩, 4) := ⟨⟨by decide +kernel, by decide +kernel⟩, List.mem_of_getElem? (i := 115) (by decide +kernel), List.mem_of_getElem? (i := 983) (by decide +kernel), List.mem_of_getElem? (i := 984) (by decide +kernel)⟩
theorem lw_p73 : lw_okq (⟨"PeerOverlay$Session", "routeUses", "(III)Z"⟩, 17) := ⟨⟨by decide +kernel, by decide +kernel⟩, List.mem_of_getElem? (i := 122) (by decide +kernel), List.mem_of_getElem? (i := 987) (by decide +kernel), List.mem_of_getElem? (i := 988) (by decide +kernel)⟩
theorem lw_p74 : lw_okq (⟨"PeerOverlay$Session", "moveMessages", "(III)I"⟩, 17) := ⟨⟨by decide +kernel, by decide +kernel⟩, List.mem_of_getElem? (i := 122) (by decide +kernel), List.mem_of_getElem? (i := 994) (by decide +kernel), List.mem_of_getElem? (i := 995) (by decide +kernel)⟩
theorem lw_p75 : lw_okq (⟨"PeerOverlay", "checkSlot", "(I)V"⟩, 10) := ⟨⟨by decide +kernel, by decide +kernel⟩, List.mem_of_getElem? (i := 23) (by decide +kernel), List.mem_of_getElem? (i := 1014) (by decide +kernel), List.mem_of_getElem? (i := 1015) (by decide +kernel)⟩
theorem lw_p76 : lw_okq (⟨"PeerOverlayModel", "clearDraft", "()V"⟩, 30) := ⟨⟨by decide +kernel, by decide +kernel⟩, List.mem_of_getElem? (i := 1027) (by decide +kernel), List.mem_of_getElem? (i := 1033) (by decide +kernel), List.mem_of_getElem? (i := 1034) (by decide +kernel)⟩
theorem lw_p77 : lw_okq (⟨"PeerOverlayModel", "emit", "(I)Z"⟩, 30) := ⟨⟨by decide +kernel, by decide +kernel⟩, List.mem_of_getElem? (i := 1027) (by decide +kernel), List.mem_of_getElem? (i := 1037) (by decide +kernel), List.mem_of_getElem? (i := 1038) (by decide +kernel)⟩
theorem lw_p78 : lw_okq (⟨"PeerOverlayModel", "liftsAll", "()V"⟩, 30) := ⟨⟨by decide +kernel, by decide +kernel⟩, List.mem_of_getElem? (i := 1027) (by decide +kernel), List.mem_of_getElem? (i := 1041) (by decide +kernel), List.mem_of_getElem? (i := 1042) (by decide +kernel)⟩
theorem lw_p79 : lw_okq (⟨"PeerOverlayModel", "begins", "()V"⟩, 30) := ⟨⟨by decide +kernel, by decide +kernel⟩, List.mem_of_getElem? (i := 1027) (by decide +kernel), List.mem_of_getElem? (i := 1048) (by decide +kernel), List.mem_of_getElem? (i := 1049) (by decide +kernel)⟩
def lw_privs_5 : List (MethodName × Nat) := [(⟨"PeerOverlay$Session", "dropEmptyOldPath", "()V"⟩, 17), (⟨"PeerOverlay$History", "keep", "(LPeerOverlay$Situation;)V"⟩, 3), (⟨"PeerOverlay$Situation", "acquaint", "(II)V"⟩, 4), (⟨"PeerOverlay$Situation", "freeSession", "()I"⟩, 4), (⟨"PeerOverlay$Session", "begin", "(IIII)V"⟩, 17), (⟨"PeerOverlay$Session", "addMessage", "(III)I"⟩, 17), (⟨"PeerOverlay$Situation", "turnLink", "(II)V"⟩, 4), (⟨"PeerOverlay$Situation", "leaveLink", "(LPeerOverlay$Plan;II)I"⟩, 4), (⟨"PeerOverlay$Situation", "leavePaths", "(LPeerOverlay$Plan;LPeerOverlay$Session;II)V"⟩, 4), (⟨"PeerOverlay$Session", "routeUses", "(III)Z"⟩, 17), (⟨"PeerOverlay$Session", "moveMessages", "(III)I"⟩, 17), (⟨"PeerOverlay", "checkSlot", "(I)V"⟩, 10), (⟨"PeerOverlayModel", "clearDraft", "()V"⟩, 30), (⟨"PeerOverlayModel", "emit", "(I)Z"⟩, 30), (⟨"PeerOverlayModel", "liftsAll", "()V"⟩, 30), (⟨"PeerOverlayModel", "begins", "()V"⟩, 30)]
theorem lw_r5 : ∀ q ∈ lw_privs_5, lw_okq q := List.forall_mem_cons.mpr ⟨lw_p64, List.forall_mem_cons.mpr ⟨lw_p65, List.forall_mem_cons.mpr ⟨lw_p66, List.forall_mem_cons.mpr ⟨lw_p67, List.forall_mem_cons.mpr ⟨lw_p68, List.forall_mem_cons.mpr ⟨lw_p69, List.forall_mem_cons.mpr ⟨lw_p70, List.forall_mem_cons.mpr ⟨lw_p71, List.forall_mem_cons.mpr ⟨lw_p72, List.forall_mem_cons.mpr ⟨lw_p73, List.forall_mem_cons.mpr ⟨lw_p74, List.forall_mem_cons.mpr ⟨lw_p75, List.forall_mem_cons.mpr ⟨lw_p76, List.forall_mem_cons.mpr ⟨lw_p77, List.forall_mem_cons.mpr ⟨lw_p78, List.forall_mem_cons.mpr ⟨lw_p79, fun _ h => absurd h List.not_mem_nil⟩⟩⟩⟩⟩⟩⟩⟩⟩⟩⟩⟩⟩⟩⟩⟩
theorem lw_p80 : lw_okq (⟨"PeerOverlayModel", "bytesOf", "(I)V"⟩, 30) := ⟨⟨by decide +kernel, by decide +kernel⟩, List.mem_of_getElem? (i := 1027) (by decide +kernel), List.mem_of_getElem? (i := 1151) (by decide +kernel), List.mem_of_getElem? (i := 1152) (by decide +kernel)⟩
theorem lw_p81 : lw_okq (⟨"PeerOverlayModel", "throwsIf", "(ZI)Z"⟩, 30) := ⟨⟨by decide +kernel, by decide +kernel⟩, List.mem_of_getElem? (i := 1027) (by decide +kernel), List.mem_of_getElem? (i := 1162) (by decide +kernel), List.mem_of_getElem? (i := 1163) (by decide +kernel)⟩
theorem lw_p82 : lw_okq (⟨"PeerOverlayModel", "advance", "()V"⟩, 30) := ⟨⟨by decide +kernel, by decide +kernel⟩, List.mem_of_getElem? (i := 1027) (by decide +kernel), List.mem_of_getElem? (i := 1166) (by decide +kernel), List.mem_of_getElem? (i := 1167) (by decide +kernel)⟩
theorem lw_p83 : lw_okq (⟨"PeerOverlayModel", "byteAt", "(I)I"⟩, 30) := ⟨⟨by decide +kernel, by decide +kernel⟩, List.mem_of_getElem? (i := 1027) (by decide +kernel), List.mem_of_getElem? (i := 1170) (by decide +kernel), List.mem_of_getElem? (i := 1171) (by decide +kernel)⟩
theorem lw_p84 : lw_okq (⟨"PeerOverlayModel", "statement", "()Z"⟩, 30) := ⟨⟨by decide +kernel, by decide +kernel⟩, List.mem_of_getElem? (i := 1027) (by decide +kernel), List.mem_of_getElem? (i := 1177) (by decide +kernel), List.mem_of_getElem? (i := 1178) (by decide +kernel)⟩
theorem lw_p85 : lw_okq (⟨"PeerOverlayModel", "isWord", "(Ljava/lang/String;)Z"⟩, 30) := ⟨⟨by decide +kernel, by decide +kernel⟩, List.mem_of_getElem? (i := 1027) (by decide +kernel), List.mem_of_getElem? (i := 1182) (by decide +kernel), List.mem_of_getElem? (i := 1183) (by decide +kernel)⟩
theorem lw_p86 : lw_okq (⟨"PeerOverlayModel", "peerLine", "()Z"⟩, 30) := ⟨⟨by decide +kernel, by decide +kernel⟩, List.mem_of_getElem? (i := 1027) (by decide +kernel), List.mem_of_getElem? (i := 1188) (by decide +kernel), List.mem_of_getElem? (i := 1189) (by decide +kernel)⟩
theorem lw_p87 : lw_okq (⟨"PeerOverlayModel", "starts", "(IZ)Z"⟩, 30) := ⟨⟨by decide +kernel, by decide +kernel⟩, List.mem_of_getElem? (i := 1027) (by decide +kernel), List.mem_of_getElem? (i := 1192) (by decide +kernel), List.mem_of_getElem? (i := 1193) (by decide +kernel)⟩
theorem lw_p88 : lw_okq (⟨"PeerOverlayModel", "fails", "(I)Z"⟩, 30) := ⟨⟨by decide +kernel, by decide +kernel⟩, List.mem_of_getElem? (i := 1027) (by decide +kernel), List.mem_of_getElem? (i := 1196) (by decide +kernel), List.mem_of_getElem? (i := 1197) (by decide +kernel)⟩
theorem lw_p89 : lw_okq (⟨"PeerOverlayModel", "takes", "(II)Z"⟩, 30) := ⟨⟨by decide +kernel, by decide +kernel⟩, List.mem_of_getElem? (i := 1027) (by decide +kernel), List.mem_of_getElem? (i := 1200) (by decide +kernel), List.mem_of_getElem? (i := 1201) (by decide +kernel)⟩
theorem lw_p90 : lw_okq (⟨"PeerOverlayModel", "sees", "(II)Z"⟩, 30) := ⟨⟨by decide +kernel, by decide +kernel⟩, List.mem_of_getElem? (i := 1027) (by decide +kernel), List.mem_of_getElem? (i := 1204) (by decide +kernel), List.mem_of_getElem? (i := 1205) (by decide +kernel)⟩
theorem lw_p91 : lw_okq (⟨"PeerOverlayModel", "takesTwo", "()Z"⟩, 30) := ⟨⟨by decide +kernel, by decide +kernel⟩, List.mem_of_getElem? (i := 1027) (by decide +kernel), List.mem_of_getElem? (i := 1209) (by decide +kernel), List.mem_of_getElem? (i := 1210) (by decide +kernel)⟩
theorem lw_p92 : lw_okq (⟨"PeerOverlayModel", "once", "(I)Z"⟩, 30) := ⟨⟨by decide +kernel, by decide +kernel⟩, List.mem_of_getElem? (i := 1027) (by decide +kernel), List.mem_of_getElem? (i := 1215) (by decide +kernel), List.mem_of_getElem? (i := 1216) (by decide +kernel)⟩
theorem lw_p93 : lw_okq (⟨"PeerOverlayModel", "sets", "(III)Z"⟩, 30) := ⟨⟨by decide +kernel, by decide +kernel⟩, List.mem_of_getElem? (i := 1027) (by decide +kernel), List.mem_of_getElem? (i := 1222) (by decide +kernel), List.mem_of_getElem? (i := 1223) (by decide +kernel)⟩
theorem lw_p94 : lw_okq (⟨"PeerOverlayModel", "sum", "()Z"⟩, 30) := ⟨⟨by decide +kernel, by decide +kernel⟩, List.mem_of_getElem? (i := 1027) (by decide +kernel), List.mem_of_getElem? (i := 1228) (by decide +kernel), List.mem_of_getElem? (i := 1229) (by decide +kernel)⟩
theorem lw_p95 : lw_okq (⟨"PeerOverlayModel", "term", "()Z"⟩, 30) := ⟨⟨by decide +kernel, by decide +kernel⟩, List.mem_of_getElem? (i := 1027) (by decide +kernel), List.mem_of_getElem? (i := 1232) (by decide +kernel), List.mem_of_getElem? (i := 1233) (by decide +kernel)⟩
def lw_privs_6 : List (MethodName × Nat) := [(⟨"PeerOverlayModel", "bytesOf", "(I)V"⟩, 30), (⟨"PeerOverlayModel", "throwsIf", "(ZI)Z"⟩, 30), (⟨"PeerOverlayModel", "advance", "()V"⟩, 30), (⟨"PeerOverlayModel", "byteAt", "(I)I"⟩, 30), (⟨"PeerOverlayModel", "statement", "()Z"⟩, 30), (⟨"PeerOverlayModel", "isWord", "(Ljava/lang/String;)Z"⟩, 30), (⟨"PeerOverlayModel", "peerLine", "()Z"⟩, 30), (⟨"PeerOverlayModel", "starts", "(IZ)Z"⟩, 30), (⟨"PeerOverlayModel", "fails", "(I)Z"⟩, 30), (⟨"PeerOverlayModel", "takes", "(II)Z"⟩, 30), (⟨"PeerOverlayModel", "sees", "(II)Z"⟩, 30), (⟨"PeerOverlayModel", "takesTwo", "()Z"⟩, 30), (⟨"PeerOverlayModel", "once", "(I)Z"⟩, 30), (⟨"PeerOverlayModel", "sets", "(III)Z"⟩, 30), (⟨"PeerOverlayModel", "sum", "()Z"⟩, 30), (⟨"PeerOverlayModel", "term", "()Z"⟩, 30)]
theorem lw_r6 : ∀ q ∈ lw_privs_6, lw_okq q := List.forall_mem_cons.mpr ⟨lw_p80, List.forall_mem_cons.mpr ⟨lw_p81, List.forall_mem_cons.mpr ⟨lw_p82, List.forall_mem_cons.mpr ⟨lw_p83, List.forall_mem_cons.mpr ⟨lw_p84, List.forall_mem_cons.mpr ⟨lw_p85, List.forall_mem_cons.mpr ⟨lw_p86, List.forall_mem_cons.mpr ⟨lw_p87, List.forall_mem_cons.mpr ⟨lw_p88, List.forall_mem_cons.mpr ⟨lw_p89, List.forall_mem_cons.mpr ⟨lw_p90, List.forall_mem_cons.mpr ⟨lw_p91, List.forall_mem_cons.mpr ⟨lw_p92, List.forall_mem_cons.mpr ⟨lw_p93, List.forall_mem_cons.mpr ⟨lw_p94, List.forall_mem_cons.mpr ⟨lw_p95, fun _ h => absurd h List.not_mem_nil⟩⟩⟩⟩⟩⟩⟩⟩⟩⟩⟩⟩⟩⟩⟩⟩
theorem lw_p96 : lw_okq (⟨"PeerOverlayModel", "factor", "()Z"⟩, 30) := ⟨⟨by decide +kernel, by decide +kernel⟩, List.mem_of_getElem? (i := 1027) (by decide +kernel), List.mem_of_getElem? (i := 1236) (by decide +kernel), List.mem_of_getElem? (i := 1237) (by decide +kernel)⟩
theorem lw_p97 : lw_okq (⟨"PeerOverlayModel", "isSignHere", "(I)Z"⟩, 30) := ⟨⟨by decide +kernel, by decide +kernel⟩, List.mem_of_getElem? (i := 1027) (by decide +kernel), List.mem_of_getElem? (i := 1240) (by decide +kernel), List.mem_of_getElem? (i := 1241) (by decide +kernel)⟩
theorem lw_p98 : lw_okq (⟨"PeerOverlayModel", "closes", "(I)Z"⟩, 30) := ⟨⟨by decide +kernel, by decide +kernel⟩, List.mem_of_getElem? (i := 1027) (by decide +kernel), List.mem_of_getElem? (i := 1244) (by decide +kernel), List.mem_of_getElem? (i := 1245) (by decide +kernel)⟩
theorem lw_p99 : lw_okq (⟨"PeerOverlayModel", "nameHere", "()I"⟩, 30) := ⟨⟨by decide +kernel, by decide +kernel⟩, List.mem_of_getElem? (i := 1027) (by decide +kernel), List.mem_of_getElem? (i := 1248) (by decide +kernel), List.mem_of_getElem? (i := 1249) (by decide +kernel)⟩
theorem lw_p100 : lw_okq (⟨"PeerOverlayModel", "noPeers", "(II)Z"⟩, 30) := ⟨⟨by decide +kernel, by decide +kernel⟩, List.mem_of_getElem? (i := 1027) (by decide +kernel), List.mem_of_getElem? (i := 1273) (by decide +kernel), List.mem_of_getElem? (i := 1274) (by decide +kernel)⟩
theorem lw_p101 : lw_okq (⟨"PeerOverlayModel", "no", "(II)Z"⟩, 30) := ⟨⟨by decide +kernel, by decide +kernel⟩, List.mem_of_getElem? (i := 1027) (by decide +kernel), List.mem_of_getElem? (i := 1277) (by decide +kernel), List.mem_of_getElem? (i := 1278) (by decide +kernel)⟩
theorem lw_p102 : lw_okq (⟨"PeerOverlayModel", "areKnown", "(II)Z"⟩, 30) := ⟨⟨by decide +kernel, by decide +kernel⟩, List.mem_of_getElem? (i := 1027) (by decide +kernel), List.mem_of_getElem? (i := 1281) (by decide +kernel), List.mem_of_getElem? (i := 1282) (by decide +kernel)⟩
theorem lw_p103 : lw_okq (⟨"PeerOverlayModel", "isUp", "(II)Z"⟩, 30) := ⟨⟨by decide +kernel, by decide +kernel⟩, List.mem_of_getElem? (i := 1027) (by decide +kernel), List.mem_of_getElem? (i := 1289) (by decide +kernel), List.mem_of_getElem? (i := 1290) (by decide +kernel)⟩
theorem lw_p104 : lw_okq (⟨"PeerOverlayModel", "noTwo", "(II)Z"⟩, 30) := ⟨⟨by decide +kernel, by decide +kernel⟩, List.mem_of_getElem? (i := 1027) (by decide +kernel), List.mem_of_getElem? (i := 1297) (by decide +kernel), List.mem_of_getElem? (i := 1298) (by decide +kernel)⟩
theorem lw_p105 : lw_okq (⟨"PeerOverlayModel", "loadOf", "(I)I"⟩, 30) := ⟨⟨by decide +kernel, by decide +kernel⟩, List.mem_of_getElem? (i := 1027) (by decide +kernel), List.mem_of_getElem? (i := 1309) (by decide +kernel), List.mem_of_getElem? (i := 1310) (by decide +kernel)⟩
theorem lw_p106 : lw_okq (⟨"PeerOverlayModel", "isOpen", "(I)Z"⟩, 30) := ⟨⟨by decide +kernel, by decide +kernel⟩, List.mem_of_getElem? (i := 1027) (by decide +kernel), List.mem_of_getElem? (i := 1313) (by decide +kernel), List.mem_of_getElem? (i := 1314) (by decide +kernel)⟩
theorem lw_p107 : lw_okq (⟨"PeerOverlayModel", "bestFor", "(II)I"⟩, 30) := ⟨⟨by decide +kernel, by decide +kernel⟩, List.mem_of_getElem? (i := 1027) (by decide +kernel), List.mem_of_getElem? (i := 1324) (by decide +kernel), List.mem_of_getElem? (i := 1325) (by decide +kernel)⟩
theorem lw_p108 : lw_okq (⟨"PeerOverlayModel", "canRelay", "(III)Z"⟩, 30) := ⟨⟨by decide +kernel, by decide +kernel⟩, List.mem_of_getElem? (i := 1027) (by decide +kernel), List.mem_of_getElem? (i := 1328) (by decide +kernel), List.mem_of_getElem? (i := 1329) (by decide +kernel)⟩
theorem lw_p109 : lw_okq (⟨"PeerOverlayModel", "scoreOf", "(III)I"⟩, 30) := ⟨⟨by decide +kernel, by decide +kernel⟩, List.mem_of_getElem? (i := 1027) (by decide +kernel), List.mem_of_getElem? (i := 1332) (by decide +kernel), List.mem_of_getElem? (i := 1333) (by decide +kernel)⟩
theorem lw_p110 : lw_okq (⟨"PeerOverlayModel", "noThree", "(III)Z"⟩, 30) := ⟨⟨by decide +kernel, by decide +kernel⟩, List.mem_of_getElem? (i := 1027) (by decide +kernel), List.mem_of_getElem? (i := 1343) (by decide +kernel), List.mem_of_getElem? (i := 1344) (by decide +kernel)⟩
theorem lw_p111 : lw_okq (⟨"PeerOverlayModel", "sessionOf", "(II)I"⟩, 30) := ⟨⟨by decide +kernel, by decide +kernel⟩, List.mem_of_getElem? (i := 1027) (by decide +kernel), List.mem_of_getElem? (i := 1355) (by decide +kernel), List.mem_of_getElem? (i := 1356) (by decide +kernel)⟩
def lw_privs_7 : List (MethodName × Nat) := [(⟨"PeerOverlayModel", "factor", "()Z"⟩, 30), (⟨"PeerOverlayModel", "isSignHere", "(I)Z"⟩, 30), (⟨"PeerOverlayModel", "closes", "(I)Z"⟩, 30), (⟨"PeerOverlayModel", "nameHere", "()I"⟩, 30), (⟨"PeerOverlayModel", "noPeers", "(II)Z"⟩, 30), (⟨"PeerOverlayModel", "no", "(II)Z"⟩, 30), (⟨"PeerOverlayModel", "areKnown", "(II)Z"⟩, 30), (⟨"PeerOverlayModel", "isUp", "(II)Z"⟩, 30), (⟨"PeerOverlayModel", "noTwo", "(II)Z"⟩, 30), (⟨"PeerOverlayModel", "loadOf", "(I)I"⟩, 30), (⟨"PeerOverlayModel", "isOpen", "(I)Z"⟩, 30), (⟨"PeerOverlayModel", "bestFor", "(II)I"⟩, 30), (⟨"PeerOverlayModel", "canRelay", "(III)Z"⟩, 30), (⟨"PeerOverlayModel", "scoreOf", "(III)I"⟩, 30), (⟨"PeerOverlayModel", "noThree", "(III)Z"⟩, 30), (⟨"PeerOverlayModel", "sessionOf", "(II)I"⟩, 30)]
theorem lw_r7 : ∀ q ∈ lw_privs_7, lw_okq q := List.forall_mem_cons.mpr ⟨lw_p96, List.forall_mem_cons.mpr ⟨lw_p97, List.forall_mem_cons.mpr ⟨lw_p98, List.forall_mem_cons.mpr ⟨lw_p99, List.forall_mem_cons.mpr ⟨lw_p100, List.forall_mem_cons.mpr ⟨lw_p101, List.forall_mem_cons.mpr ⟨lw_p102, List.forall_mem_cons.mpr ⟨lw_p103, List.forall_mem_cons.mpr ⟨lw_p104, List.forall_mem_cons.mpr ⟨lw_p105, List.forall_mem_cons.mpr ⟨lw_p106, List.forall_mem_cons.mpr ⟨lw_p107, List.forall_mem_cons.mpr ⟨lw_p108, List.forall_mem_cons.mpr ⟨lw_p109, List.forall_mem_cons.mpr ⟨lw_p110, List.forall_mem_cons.mpr ⟨lw_p111, fun _ h => absurd h List.not_mem_nil⟩⟩⟩⟩⟩⟩⟩⟩⟩⟩⟩⟩⟩⟩⟩⟩
theorem lw_p112 : lw_okq (⟨"PeerOverlayModel", "asked", "(II)I"⟩, 30) := ⟨⟨by decide +kernel, by decide +kernel⟩, List.mem_of_getElem? (i := 1027) (by decide +kernel), List.mem_of_getElem? (i := 1363) (by decide +kernel), List.mem_of_getElem? (i := 1364) (by decide +kernel)⟩
theorem lw_p113 : lw_okq (⟨"PeerOverlayModel", "noSession", "(I)Z"⟩, 30) := ⟨⟨by decide +kernel, by decide +kernel⟩, List.mem_of_getElem? (i := 1027) (by decide +kernel), List.mem_of_getElem? (i := 1367) (by decide +kernel), List.mem_of_getElem? (i := 1368) (by decide +kernel)⟩
theorem lw_p114 : lw_okq (⟨"PeerOverlayModel", "inState", "(II)I"⟩, 30) := ⟨⟨by decide +kernel, by decide +kernel⟩, List.mem_of_getElem? (i := 1027) (by decide +kernel), List.mem_of_getElem? (i := 1383) (by decide +kernel), List.mem_of_getElem? (i := 1384) (by decide +kernel)⟩
theorem lw_p115 : lw_okq (⟨"PeerOverlayModel", "undelivered", "(I)I"⟩, 30) := ⟨⟨by decide +kernel, by decide +kernel⟩, List.mem_of_getElem? (i := 1027) (by decide +kernel), List.mem_of_getElem? (i := 1387) (by decide +kernel), List.mem_of_getElem? (i := 1388) (by decide +kernel)⟩
theorem lw_p116 : lw_okq (⟨"PeerOverlayModel", "ticks", "()I"⟩, 30) := ⟨⟨by decide +kernel, by decide +kernel⟩, List.mem_of_getElem? (i := 1027) (by decide +kernel), List.mem_of_getElem? (i := 1421) (by decide +kernel), List.mem_of_getElem? (i := 1422) (by decide +kernel)⟩
theorem lw_p117 : lw_okq (⟨"PeerOverlayModel", "delivers", "(I)I"⟩, 30) := ⟨⟨by decide +kernel, by decide +kernel⟩, List.mem_of_getElem? (i := 1027) (by decide +kernel), List.mem_of_getElem? (i := 1425) (by decide +kernel), List.mem_of_getElem? (i := 1426) (by decide +kernel)⟩
theorem lw_p118 : lw_okq (⟨"PeerOverlayModel", "probes", "(I)V"⟩, 30) := ⟨⟨by decide +kernel, by decide +kernel⟩, List.mem_of_getElem? (i := 1027) (by decide +kernel), List.mem_of_getElem? (i := 1429) (by decide +kernel), List.mem_of_getElem? (i := 1430) (by decide +kernel)⟩
theorem lw_p119 : lw_okq (⟨"PeerOverlayModel", "takesPath", "(II)V"⟩, 30) := ⟨⟨by decide +kernel, by decide +kernel⟩, List.mem_of_getElem? (i := 1027) (by decide +kernel), List.mem_of_getElem? (i := 1433) (by decide +kernel), List.mem_of_getElem? (i := 1434) (by decide +kernel)⟩
theorem lw_p120 : lw_okq (⟨"PeerOverlayModel", "turnsKey", "(I)V"⟩, 30) := ⟨⟨by decide +kernel, by decide +kernel⟩, List.mem_of_getElem? (i := 1027) (by decide +kernel), List.mem_of_getElem? (i := 1437) (by decide +kernel), List.mem_of_getElem? (i := 1438) (by decide +kernel)⟩
theorem lw_p121 : lw_okq (⟨"PeerOverlayModel", "travels", "(II)V"⟩, 30) := ⟨⟨by decide +kernel, by decide +kernel⟩, List.mem_of_getElem? (i := 1027) (by decide +kernel), List.mem_of_getElem? (i := 1441) (by decide +kernel), List.mem_of_getElem? (i := 1442) (by decide +kernel)⟩
theorem lw_p122 : lw_okq (⟨"PeerOverlayModel", "delayBy", "(II)I"⟩, 30) := ⟨⟨by decide +kernel, by decide +kernel⟩, List.mem_of_getElem? (i := 1027) (by decide +kernel), List.mem_of_getElem? (i := 1445) (by decide +kernel), List.mem_of_getElem? (i := 1446) (by decide +kernel)⟩
theorem lw_p123 : lw_okq (⟨"PeerOverlayModel", "emptiesOld", "(I)V"⟩, 30) := ⟨⟨by decide +kernel, by decide +kernel⟩, List.mem_of_getElem? (i := 1027) (by decide +kernel), List.mem_of_getElem? (i := 1449) (by decide +kernel), List.mem_of_getElem? (i := 1450) (by decide +kernel)⟩
theorem lw_p124 : lw_okq (⟨"PeerOverlayModel", "keeps", "()V"⟩, 30) := ⟨⟨by decide +kernel, by decide +kernel⟩, List.mem_of_getElem? (i := 1027) (by decide +kernel), List.mem_of_getElem? (i := 1461) (by decide +kernel), List.mem_of_getElem? (i := 1462) (by decide +kernel)⟩
theorem lw_p125 : lw_okq (⟨"PeerOverlayModel", "breaks", "(III)I"⟩, 30) := ⟨⟨by decide +kernel, by decide +kernel⟩, List.mem_of_getElem? (i := 1027) (by decide +kernel), List.mem_of_getElem? (i := 1484) (by decide +kernel), List.mem_of_getElem? (i := 1485) (by decide +kernel)⟩
theorem lw_p126 : lw_okq (⟨"PeerOverlayModel", "usesLink", "(IIII)Z"⟩, 30) := ⟨⟨by decide +kernel, by decide +kernel⟩, List.mem_of_getElem? (i := 1027) (by decide +kernel), List.mem_of_getElem? (i := 1488) (by decide +kernel), List.mem_of_getElem? (i := 1489) (by decide +kernel)⟩
theorem lw_p127 : lw_okq (⟨"PeerOverlayModel", "noSlot", "(I)Z"⟩, 30) := ⟨⟨by decide +kernel, by decide +kernel⟩, List.mem_of_getElem? (i := 1027) (by decide +kernel), List.mem_of_getElem? (i := 1504) (by decide +kernel), List.mem_of_getElem? (i := 1505) (by decide +kernel)⟩
def lw_privs_8 : List (MethodName × Nat) := [(⟨"PeerOverlayModel", "asked", "(II)I"⟩, 30), (⟨"PeerOverlayModel", "noSession", "(I)Z"⟩, 30), (⟨"PeerOverlayModel", "inState", "(II)I"⟩, 30), (⟨"PeerOverlayModel", "undelivered", "(I)I"⟩, 30), (⟨"PeerOverlayModel", "ticks", "()I"⟩, 30), (⟨"PeerOverlayModel", "delivers", "(I)I"⟩, 30), (⟨"PeerOverlayModel", "probes", "(I)V"⟩, 30), (⟨"PeerOverlayModel", "takesPath", "(II)V"⟩, 30), (⟨"PeerOverlayModel", "turnsKey", "(I)V"⟩, 30), (⟨"PeerOverlayModel", "travels", "(II)V"⟩, 30), (⟨"PeerOverlayModel", "delayBy", "(II)I"⟩, 30), (⟨"PeerOverlayModel", "emptiesOld", "(I)V"⟩, 30), (⟨"PeerOverlayModel", "keeps", "()V"⟩, 30), (⟨"PeerOverlayModel", "breaks", "(III)I"⟩, 30), (⟨"PeerOverlayModel", "usesLink", "(IIII)Z"⟩, 30), (⟨"PeerOverlayModel", "noSlot", "(I)Z"⟩, 30)]
theorem lw_r8 : ∀ q ∈ lw_privs_8, lw_okq q := List.forall_mem_cons.mpr ⟨lw_p112, List.forall_mem_cons.mpr ⟨lw_p113, List.forall_mem_cons.mpr ⟨lw_p114, List.forall_mem_cons.mpr ⟨lw_p115, List.forall_mem_cons.mpr ⟨lw_p116, List.forall_mem_cons.mpr ⟨lw_p117, List.forall_mem_cons.mpr ⟨lw_p118, List.forall_mem_cons.mpr ⟨lw_p119, List.forall_mem_cons.mpr ⟨lw_p120, List.forall_mem_cons.mpr ⟨lw_p121, List.forall_mem_cons.mpr ⟨lw_p122, List.forall_mem_cons.mpr ⟨lw_p123, List.forall_mem_cons.mpr ⟨lw_p124, List.forall_mem_cons.mpr ⟨lw_p125, List.forall_mem_cons.mpr ⟨lw_p126, List.forall_mem_cons.mpr ⟨lw_p127, fun _ h => absurd h List.not_mem_nil⟩⟩⟩⟩⟩⟩⟩⟩⟩⟩⟩⟩⟩⟩⟩⟩
def lw_privs : List (MethodName × Nat) := lw_privs_1 ++ (lw_privs_2 ++ (lw_privs_3 ++ (lw_privs_4 ++ (lw_privs_5 ++ (lw_privs_6 ++ (lw_privs_7 ++ (lw_privs_8)))))))
def lw_tbl : List Cond := k2_sels lw_privs ++ tables_1
theorem lw_privs_ok : ∀ q ∈ lw_privs, lw_okq q := by
  show ∀ q ∈ lw_privs_1 ++ (lw_privs_2 ++ (lw_privs_3 ++ (lw_privs_4 ++ (lw_privs_5 ++ (lw_privs_6 ++ (lw_privs_7 ++ (lw_privs_8))))))), lw_okq q
  exact List.forall_mem_append.mpr ⟨lw_r1, List.forall_mem_append.mpr ⟨lw_r2, List.forall_mem_append.mpr ⟨lw_r3, List.forall_mem_append.mpr ⟨lw_r4, List.forall_mem_append.mpr ⟨lw_r5, List.forall_mem_append.mpr ⟨lw_r6, List.forall_mem_append.mpr ⟨lw_r7, lw_r8⟩⟩⟩⟩⟩⟩⟩
/-! ===== BEGIN words of one list among another's, by their places ===== -/
theorem goodIn_r {big : List Cond} (ws : List Cond) (ps : List Nat) (hp : ws = ps.filterMap (fun i => big[i]?)) (h : ws.all goodWord = true) : GoodIn big ws := by
  intro w hw
  have h1 := List.all_eq_true.mp h w hw
  rw [hp] at hw
  obtain ⟨i, -, hi⟩ := List.mem_filterMap.mp hw
  have hm : w ∈ big := by first | exact List.mem_of_getElem? hi | exact List.getElem?_mem hi
  exact ⟨hm, good_of_word h1⟩
theorem goodIn_app {big a b : List Cond} (ha : GoodIn big a) (hb : GoodIn big b) : GoodIn big (a ++ b) := fun w h => (List.mem_append.mp h).elim (ha w) (hb w)
theorem goodIn_ca {big a b : List Cond} {c : Cond} (ha : GoodIn big (c :: a)) (hb : GoodIn big b) : GoodIn big (c :: (a ++ b)) := fun w h => (List.mem_cons.mp h).elim (fun e => ha w (List.mem_cons.mpr (Or.inl e))) (fun h => (List.mem_append.mp h).elim (fun h => ha w (List.mem_cons.mpr (Or.inr h))) (hb w))
theorem goodIn_sub {big ws : List Cond} (hm : ∀ w ∈ ws, w ∈ big) (h : ws.all goodWord = true) : GoodIn big ws := fun w hw => ⟨hm w hw, good_of_word (List.all_eq_true.mp h w hw)⟩
/-! ===== END ===== -/

/-! ===== BEGIN exceptions that leave a method, and their catching by the caller (launches without stack traces) ===== -/
section VXA
/-! The laws vx_back, vx_callV, vx_callS, vx_callSW, vx_throw0, vx_throwS follow proofs of the library, with one case more: JvmDerived/Free/Laws.lean (Back.of_free), Shelf42/LK1.lean (callV, callS), Shelf/KitTraced.lean (throwNew0V, throwNewS). -/
/-- where a method has thrown q: the class by its name, the cell, what was written, the world -/
def vx_T (XC : String → State → State → Prop) (st : State) (q : Addr) (t : State) (mc ms : Nat) (free : Addr → Prop) : Prop :=
  ∃ (E : String) (ce : Cell) (L : List Loc), XC E st t ∧ t.heap[q]? = some ce ∧ ce.vm = .none ∧ st.vm.findClass E = some ce.cls ∧ st.WarmedH t.vm ∧ st.sameButNew ({ t with vm := st.vm } : State) L mc ms ∧ ∀ z ∈ L, free z.base
def vx_Q (Qc : Array Value → State → Outcome → State → Prop) (XC : String → State → State → Prop) (mc ms : Nat) (free : Addr → Prop) : Array Value → State → Outcome → State → Prop := fun a st o t =>
  (Qc a st o t ∧ ∃ L, FrameEnd st o t L mc ms ∧ ∀ q ∈ L, free q.base) ∨ ∃ q, o = .threw q ∧ vx_T XC st q t mc ms free
/-- a callee that returns or throws -/
def vx_Met (l : Launch) (y : MethodName) (ws : List Cond) (rm : Room) (Pc : Array Value → State → Prop) (Qc : Array Value → State → Outcome → State → Prop) (XC : String → State → State → Prop) (mc ms : Nat) (free : Addr → Prop) : Prop :=
  MetFree l y (headSpec ws rm) Pc (fun _ _ _ _ _ => True) (vx_Q Qc XC mc ms free)
def vx_Post (XC : String → State → State → Prop) (mc ms : Nat) (free : Addr → Prop) : Pt → Array Value → Addr → Pt → Prop := fun A a q B =>
  ∃ (g : JFrame) (mk : MethodId) (t : State) (L : List Loc) (E : String) (ce : Cell), B.U.heap = t.heap ∧ B.U.vm = t.vm ∧ XC E (A.U.calling g mk a) t ∧ t.heap[q]? = some ce ∧ ce.vm = .none ∧ A.U.vm.findClass E = some ce.cls ∧ B.locs = A.locs ++ L ∧ (∀ z ∈ L, free z.base) ∧ B.cells = A.cells + mc ∧ B.slots = A.slots + ms
def vx_Back (l : Launch) (R : Room) (p : Program) (e : Env) (below : List Frame) (s : State) (sargs : Array Value) (y : MethodName) (len W9 : Nat)
    (Pre : Pt → Array Value → Prop) (Post : Pt → Array Value → Option Value → Pt → Prop) (PostX : Pt → Array Value → Addr → Pt → Prop) : Prop :=
  ∀ (m : MethodId) (meth : Method) (c : Code) (A : Pt) (g : JFrame) (ig : Instr) (mk : MethodId) (a : Array Value),
    Stand p l e R s m sargs below meth c A.U A.locs A.cells A.slots → g.method = m → g.locals.size = c.maxLocals → decode c.code g.pc = .ok (ig, len) →
    2 * g.monitorRoom + (g.stack.map fun v => v.category).sum ≤ W9 → A.U.methodNamed? y = some mk → Pre A a →
    (∃ (v : Option Value) (B : Pt), Stand p l e R s m sargs below meth c B.U B.locs B.cells B.slots ∧ Post A a v B ∧
      Steps p.tables e below (doInvoke e (A.U.setTop g) [] mk a).1 (B.U.setTop { g with pc := g.pc + len, stack := v.toList ++ g.stack })) ∨
    (∃ (q : Addr) (B : Pt), Stand p l e R s m sargs below meth c B.U B.locs B.cells B.slots ∧ PostX A a q B ∧
      Steps p.tables e below (doInvoke e (A.U.setTop g) [] mk a).1 ((B.U.setTop g).pushFrame (.throwing q)))
section Payer
variable {l : Launch} {R : Room} {p : Program} {e : Env} {below : List Frame} {s : State} {sargs : Array Value} {y : MethodName} {len W9 : Nat}
theorem vx_back {ws : List Cond} {rm : Room} {Pc : Array Value → State → Prop} {Qc : Array Value → State → Outcome → State → Prop} {XC : String → State → State → Prop} {mc ms : Nat} {free : Addr → Prop} {bytes : ByteArray} {maxL : Nat} {ret : Option FieldType}
    (hM : vx_Met l y ws rm Pc Qc XC mc ms free) (hblind : FrameBlind Pc) (hrc : rm.cells = mc) (hrs : rm.slots = ms)
    (hframes : rm.frames + 1 ≤ R.frames) (hlocals : W9 + (maxL + 11) + rm.locals ≤ R.locals)
    (hws : ∀ w ∈ ws, ∀ a' U, s.WarmedH U.vm → w.before a' U = true) (hcode : Cond.code y bytes maxL ret ∈ ws) (hinit : ∀ a' U, s.WarmedH U.vm → (Cond.initialized y.cls).before a' U = true) :
    vx_Back l R p e below s sargs y len W9 (PreOf R mc ms Pc) (PostOf Qc mc ms free) (vx_Post XC mc ms free) := by
  intro m meth c A g ig mk a X hg hsize hdg hW hn hp
  have h1 : (headSpec ws rm).pre.before a A.U = true := atoms_intro fun w hw => hws w hw _ _ X.warmed
  have h2 : (Cond.code y bytes maxL ret).before a A.U = true := hws _ hcode _ _ X.warmed
  have h3 : (Cond.initialized y.cls).before a A.U = true := hinit _ _ X.warmed
  have h4 : A.cells + (headSpec ws rm).room.cells ≤ R.cells := by rw [show (headSpec ws rm).room.cells = mc from hrc]; exact hp.1
  have h5 : A.slots + (headSpec ws rm).room.slots ≤ R.slots := by rw [show (headSpec ws rm).room.slots = ms from hrs]; exact hp.2.1
  have hPc : Pc a (A.U.calling g mk a) := hblind _ _ _ _ hp.2.2
  obtain ⟨U, Ls, c0, s0⟩ := A
  dsimp only [Pt.U, Pt.locs, Pt.cells, Pt.slots] at h1 h2 h3 h4 h5 X hn hPc ⊢
  obtain ⟨methY, cY, hmY, hcY, -, hlY, -, -, -, -⟩ := Cond.code_spec hn h2
  obtain ⟨kY, hkY, -⟩ := className_of_methodNamed hn
  have hinitY : kY.init = .initialized := Cond.initialized_spec (findClass_of_methodNamed hn) hkY h3
  have h : At U g.method c below := by rw [hg]; exact X.here
  have hlocals9 : W9 + (maxL + 11) + (headSpec ws rm).room.locals ≤ R.locals := hlocals
  have happ : (headSpec ws rm).appliesLoose y e.platform (U.calling g mk a) = true :=
    Spec.appliesLoose_calling (g := g) h hdg hn hkY hinitY
      (X.room_calling (g := g) (R' := (headSpec ws rm).room) hsize hmY hcY hframes (by rw [hlY]; omega) h4 h5) h1
  obtain ⟨mid, hmid⟩ := h.above
  have hfr : (U.setTop g).frames = (.java g :: mid) ++ below := by rw [State.frames_setTop' g h.top, hmid]; rfl
  obtain ⟨o, s₂, hsteps, -, hend, hq⟩ := Steps.callFree hM p X.admits X.cas X.clock (acts := []) hfr happ hPc trivial
  have hq' : vx_Q Qc XC mc ms free a (U.calling g mk a) o s₂ := hq
  rw [State.frames_setTop' g h.top] at hend
  obtain ⟨g₀, hg0⟩ := Option.isSome_iff_exists.mp h.top
  obtain ⟨r, hr⟩ := State.topJava?_eq_some.mp hg0
  have hr' : (({ U with heap := s₂.heap, slotsUsed := s₂.slotsUsed } : State).setVm s₂.vm).frames = .java g₀ :: r := hr
  rcases hq' with ⟨hqc, L, hfe, hL⟩ | ⟨q, rfl, E, ce, L, hx, hce, hcv, hcl, hW₂, hsm, hL⟩
  · obtain ⟨⟨v, rfl⟩, hW₂, e2, q2, q3, q4, q5, q6⟩ := id hfe
    have e3 : s₂ = ({ (U.calling g mk a).setFrames s₂.frames with heap := s₂.heap, slotsUsed := s₂.slotsUsed } : State).setVm s₂.vm := by
      have : s₂ = ({ s₂ with vm := (U.calling g mk a).vm } : State).setVm s₂.vm := rfl
      rw [e2] at this
      exact this
    obtain ⟨c₂, i₂, len₂, hc₂, hd₂, hf₂⟩ := hend
    have hW' : U.WarmedH s₂.vm := hW₂
    have hcc : c₂ = c := by
      have h1 : s₂.code? g.method = U.code? g.method := by
        rw [State.code?_eq, State.code?_eq, hW'.alike.method?]
      exact Option.some.inj (hc₂.symm.trans (h1.trans h.code))
    subst hcc
    have hlen : len₂ = len := by rw [hdg] at hd₂; cases hd₂; rfl
    subst hlen
    have hs₂ : s₂ = (({ U with heap := s₂.heap, slotsUsed := s₂.slotsUsed } : State).setVm s₂.vm).setTop { g with pc := g.pc + len₂, stack := v.toList ++ g.stack } := by
      refine e3.trans ?_
      rw [hf₂, State.calling_eq h.top, State.setFrames_setFrames, State.setTop_of_frames _ hr', hr]
      rfl
    have hsame : U.sameButNew ({ U with heap := s₂.heap, slotsUsed := s₂.slotsUsed } : State) L mc ms := by
      refine ⟨?_, q2, q3, q4, q5, q6⟩
      obtain ⟨t, ht, -⟩ := State.frames_cons hr
      show ({ U with heap := s₂.heap, slotsUsed := s₂.slotsUsed } : State) = { U.setFrames U.frames with heap := s₂.heap, slotsUsed := s₂.slotsUsed }
      rw [State.setFrames_self ht]
    subst hg
    refine Or.inl ⟨v, ⟨(({ U with heap := s₂.heap, slotsUsed := s₂.slotsUsed } : State).setVm s₂.vm), Ls ++ L, c0 + mc, s0 + ms⟩,
      ⟨X.admits, X.cas, X.clock, X.frames, X.room, X.hears, X.method, X.code, (X.here.setHeapUsed s₂.heap s₂.slotsUsed).setVm hW'.alike, X.tail, State.WarmedH.trans X.warmed hW', X.limits, X.bytes, X.same.trans (hsame.setVm s.vm)⟩,
      ⟨g, mk, s₂, L, rfl, rfl, hqc, rfl, hL, rfl, rfl⟩, ?_⟩
    show Steps p.tables e below _ ((({ U with heap := s₂.heap, slotsUsed := s₂.slotsUsed } : State).setVm s₂.vm).setTop { g with pc := g.pc + len₂, stack := v.toList ++ g.stack })
    rw [← hs₂]
    exact hsteps
  · obtain ⟨e2, q2, q3, q4, q5, q6⟩ := id hsm
    have e3 : s₂ = ({ (U.calling g mk a).setFrames s₂.frames with heap := s₂.heap, slotsUsed := s₂.slotsUsed } : State).setVm s₂.vm := by
      have : s₂ = ({ s₂ with vm := (U.calling g mk a).vm } : State).setVm s₂.vm := rfl
      rw [e2] at this
      exact this
    have hf₂ : s₂.frames = .throwing q :: .java g :: U.frames.tail := hend
    have hW' : U.WarmedH s₂.vm := hW₂
    have hs₂ : s₂ = ((({ U with heap := s₂.heap, slotsUsed := s₂.slotsUsed } : State).setVm s₂.vm).setTop g).pushFrame (.throwing q) := by
      refine e3.trans ?_
      rw [hf₂, State.calling_eq h.top, State.setFrames_setFrames, State.pushFrame, State.frames_setTop _ hr', State.setTop_of_frames _ hr', State.setFrames_setFrames, hr]
      rfl
    have hsame : U.sameButNew ({ U with heap := s₂.heap, slotsUsed := s₂.slotsUsed } : State) L mc ms := by
      refine ⟨?_, q2, q3, q4, q5, q6⟩
      obtain ⟨t, ht, -⟩ := State.frames_cons hr
      show ({ U with heap := s₂.heap, slotsUsed := s₂.slotsUsed } : State) = { U.setFrames U.frames with heap := s₂.heap, slotsUsed := s₂.slotsUsed }
      rw [State.setFrames_self ht]
    subst hg
    refine Or.inr ⟨q, ⟨(({ U with heap := s₂.heap, slotsUsed := s₂.slotsUsed } : State).setVm s₂.vm), Ls ++ L, c0 + mc, s0 + ms⟩,
      ⟨X.admits, X.cas, X.clock, X.frames, X.room, X.hears, X.method, X.code, (X.here.setHeapUsed s₂.heap s₂.slotsUsed).setVm hW'.alike, X.tail, State.WarmedH.trans X.warmed hW', X.limits, X.bytes, X.same.trans (hsame.setVm s.vm)⟩,
      ⟨g, mk, s₂, L, E, ce, rfl, rfl, hx, hce, hcv, hcl, rfl, hL, rfl, rfl⟩, ?_⟩
    show Steps p.tables e below _ (((({ U with heap := s₂.heap, slotsUsed := s₂.slotsUsed } : State).setVm s₂.vm).setTop g).pushFrame (.throwing q))
    rw [← hs₂]
    exact hsteps
end Payer
section Calls
variable {p : Program} {l : Launch} {e : Env} {R : Room} {s : State} {m : MethodId} {args : Array Value} {below : List Frame} {meth : Method} {c : Code} {T : State} {locs : List Loc} {cells slots : Nat}
theorem vx_callV (X : Stand p l e R s m args below meth c T locs cells slots) (hexec : p.tables.exec = Jvm.exec) {own C : String} {index : Nat} {y : MethodName} {bytes : ByteArray} {maxL : Nat} {ret : Option FieldType}
    (hown : s.vm.findClass own = some m.cls) (hlink : (Cond.methodLink own index y).before args s = true) (hinst : (Cond.instanceMethod y).before args s = true) (hsel : (Cond.selects C y y).before args s = true)
    (hcode : (Cond.code y bytes maxL ret).before args s = true) (hy : y.cls ≠ "java/lang/invoke/MethodHandle" ∧ y.cls ≠ "java/lang/invoke/VarHandle")
    {W9 : Nat} {Pre : Pt → Array Value → Prop} {Post : Pt → Array Value → Option Value → Pt → Prop} {PostX : Pt → Array Value → Addr → Pt → Prop} (hK : vx_Back l R p e below s args y 3 W9 Pre Post PostX)
    {b : Addr} {cellB : Cell} (hcell : T.heap[b]? = some cellB) (hobj : cellB.vm.isStatics = false) (hcls : s.vm.findClass C = some cellB.cls)
    {g : JFrame} (hg : g.method = m) (hsize : g.locals.size = c.maxLocals) {argsL rest : List Value} (hlen : ∀ sig, parseMethodDescriptor y.desc = some sig → argsL.length = sig.parameters.length)
    (hstack : g.stack = argsL.reverse ++ .ref b :: rest) (hW : 2 * g.monitorRoom + (rest.map fun v => v.category).sum ≤ W9) (hdg : decode c.code g.pc = .ok (.invokevirtual index, 3))
    (hpre : ∀ vm₁, s.WarmedH vm₁ → Pre ⟨T.setVm vm₁, locs, cells, slots⟩ (Value.ref b :: argsL).toArray) :
    (∃ (v : Option Value) (vm₁ : Vm) (B : Pt), s.WarmedH vm₁ ∧ Stand p l e R s m args below meth c B.U B.locs B.cells B.slots ∧ Post ⟨T.setVm vm₁, locs, cells, slots⟩ (Value.ref b :: argsL).toArray v B ∧
      ∀ target, Steps p.tables e below (B.U.setTop { g with pc := g.pc + 3, stack := v.toList ++ rest }) target → Steps p.tables e below (T.setTop g) target) ∨
    (∃ (q : Addr) (vm₁ : Vm) (B : Pt), s.WarmedH vm₁ ∧ Stand p l e R s m args below meth c B.U B.locs B.cells B.slots ∧ PostX ⟨T.setVm vm₁, locs, cells, slots⟩ (Value.ref b :: argsL).toArray q B ∧
      Steps p.tables e below (T.setTop g) ((B.U.setTop { g with stack := rest }).pushFrame (.throwing q))) := by
  obtain ⟨mk, methM, hnamed, hmethM, hstM, habM⟩ := Cond.instanceMethod_spec hinst
  obtain ⟨methM', cM, hmethM', -, -, -, -, -, -, hsigM⟩ := Cond.code_spec hnamed hcode
  cases hmethM.symm.trans hmethM'
  obtain ⟨c2, r2, m2, q1, q2, q3, q4, kP, hkP, hkPi⟩ := Cond.selects_spec hsel
  cases hcls.symm.trans q1
  cases (State.methodFound?_of_named hnamed hy).symm.trans q2
  cases hnamed.symm.trans q3
  have hselP : selectMethod e.platform s.vm cellB.cls mk = .method mk := by rw [Launch.admits_selectMethod X.admits]; exact q4
  obtain ⟨vm₁, X₁, hstep₁⟩ := X.invokevirtual hexec hown hlink hnamed hmethM hstM hkP hkPi hy (a := b) (cell := cellB) hcell
    (fun z h => by rw [h] at hobj; cases hobj) hselP hmethM habM hkP hkPi (g := g) hg (argsL := argsL) (rest := rest) (hlen _ hsigM) hstack hdg
  rcases hK m meth c ⟨T.setVm vm₁, locs, cells, slots⟩ { g with stack := rest } (.invokevirtual index) mk (Value.ref b :: argsL).toArray X₁ hg hsize hdg hW (X₁.named hnamed) (hpre vm₁ X₁.warmed) with ⟨v, B, X', hpost, hsteps⟩ | ⟨q, B, X', hpost, hsteps⟩
  · exact Or.inl ⟨v, vm₁, B, X₁.warmed, X', hpost, fun target h => hstep₁ _ fun acts => by rw [doInvoke_state]; exact hsteps.trans h⟩
  · exact Or.inr ⟨q, vm₁, B, X₁.warmed, X', hpost, hstep₁ _ fun acts => by rw [doInvoke_state]; exact hsteps⟩
theorem vx_callS (X : Stand p l e R s m args below meth c T locs cells slots) (hexec : p.tables.exec = Jvm.exec) {own : String} {index : Nat} {y : MethodName} {bytes : ByteArray} {maxL : Nat} {ret : Option FieldType}
    (hown : s.vm.findClass own = some m.cls) (hlink : (Cond.methodLink own index y).before args s = true) (hstat : (Cond.static y).before args s = true) (hinit : (Cond.initialized y.cls).before args s = true)
    (hcode : (Cond.code y bytes maxL ret).before args s = true) (hy : y.cls ≠ "java/lang/invoke/MethodHandle" ∧ y.cls ≠ "java/lang/invoke/VarHandle")
    {W9 : Nat} {Pre : Pt → Array Value → Prop} {Post : Pt → Array Value → Option Value → Pt → Prop} {PostX : Pt → Array Value → Addr → Pt → Prop} (hK : vx_Back l R p e below s args y 3 W9 Pre Post PostX)
    {g : JFrame} (hg : g.method = m) (hsize : g.locals.size = c.maxLocals) {argsL rest : List Value} (hlen : ∀ sig, parseMethodDescriptor y.desc = some sig → argsL.length = sig.parameters.length)
    (hstack : g.stack = argsL.reverse ++ rest) (hW : 2 * g.monitorRoom + (rest.map fun v => v.category).sum ≤ W9) (hdg : decode c.code g.pc = .ok (.invokestatic index, 3))
    (hpre : ∀ vm₁, s.WarmedH vm₁ → Pre ⟨T.setVm vm₁, locs, cells, slots⟩ argsL.toArray) :
    (∃ (v : Option Value) (vm₁ : Vm) (B : Pt), s.WarmedH vm₁ ∧ Stand p l e R s m args below meth c B.U B.locs B.cells B.slots ∧ Post ⟨T.setVm vm₁, locs, cells, slots⟩ argsL.toArray v B ∧
      ∀ target, Steps p.tables e below (B.U.setTop { g with pc := g.pc + 3, stack := v.toList ++ rest }) target → Steps p.tables e below (T.setTop g) target) ∨
    (∃ (q : Addr) (vm₁ : Vm) (B : Pt), s.WarmedH vm₁ ∧ Stand p l e R s m args below meth c B.U B.locs B.cells B.slots ∧ PostX ⟨T.setVm vm₁, locs, cells, slots⟩ argsL.toArray q B ∧
      Steps p.tables e below (T.setTop g) ((B.U.setTop { g with stack := rest }).pushFrame (.throwing q))) := by
  obtain ⟨mk, hnamed⟩ := Cond.code_named hcode
  obtain ⟨methM, cM, hmethM, -, -, -, -, -, -, hsigM⟩ := Cond.code_spec hnamed hcode
  have hstatic : methM.isStatic = true := Cond.static_spec hnamed hmethM hstat
  obtain ⟨kP, hkP, -⟩ := className_of_methodNamed hnamed
  have hinitP : kP.init = .initialized := Cond.initialized_spec (findClass_of_methodNamed hnamed) hkP hinit
  obtain ⟨vm₁, X₁, hstep₁⟩ := X.invokestatic hexec hown hlink hnamed hmethM hstatic hkP hinitP hy (g := g) hg (argsL := argsL) (rest := rest) (hlen _ hsigM) hstack hdg
  rcases hK m meth c ⟨T.setVm vm₁, locs, cells, slots⟩ { g with stack := rest } (.invokestatic index) mk argsL.toArray X₁ hg hsize hdg hW (X₁.named hnamed) (hpre vm₁ X₁.warmed) with ⟨v, B, X', hpost, hsteps⟩ | ⟨q, B, X', hpost, hsteps⟩
  · exact Or.inl ⟨v, vm₁, B, X₁.warmed, X', hpost, fun target h => hstep₁ _ fun acts => by rw [doInvoke_state]; exact hsteps.trans h⟩
  · exact Or.inr ⟨q, vm₁, B, X₁.warmed, X', hpost, hstep₁ _ fun acts => by rw [doInvoke_state]; exact hsteps⟩
end Calls
theorem vx_cls {s : State} {T : State} {vm₁ : Vm} {E : String} {k : ClassId} (hW : s.WarmedH vm₁) (h : (T.setVm vm₁).vm.findClass E = some k) : s.vm.findClass E = some k := by
  have h1 : vm₁.findClass E = some k := h
  rw [hW.alike.findClass] at h1
  exact h1
/-- the method's frame g, with q thrown over it -/
def vx_W (p : Program) (l : Launch) (e : Env) (R : Room) (s : State) (m : MethodId) (args : Array Value) (below : List Frame) (meth : Method) (c : Code) (H : Heap) (locs : List Loc) (cells slots : Nat) (Q : State → Prop) (g : JFrame) (q : Addr) : Prop :=
  ∀ T : State, T.heap = H → Stand p l e R s m args below meth c T locs cells slots → ∃ t, Steps p.tables e below ((T.setTop g).pushFrame (.throwing q)) t ∧ Q t
def vx_Run (p : Program) (l : Launch) (e : Env) (R : Room) (s : State) (m : MethodId) (args : Array Value) (below : List Frame) (meth : Method) (c : Code) (H : Heap) (locs : List Loc) (cells slots mc ms : Nat) (g : JFrame) (rest : List Value) (Qa : State → Outcome → State → Prop) (XC : String → State → State → Prop) (free : Addr → Prop) : Prop :=
  ∀ T : State, T.heap = H → Stand p l e R s m args below meth c T locs cells slots →
    (∃ (v : Option Value) (st₀ t T' : State) (L : List Loc), st₀.heap = H ∧ Stand p l e R s m args below meth c T' (locs ++ L) (cells + mc) (slots + ms) ∧ (∀ q ∈ L, free q.base) ∧ T'.heap = t.heap ∧ T'.vm = t.vm ∧ Qa st₀ (.returned v) t ∧
      Goes p e below T g T' { g with pc := g.pc + 3, stack := v.toList ++ rest }) ∨
    (∃ (q : Addr) (st₀ t T' : State) (L : List Loc) (E : String) (ce : Cell), st₀.heap = H ∧ Stand p l e R s m args below meth c T' (locs ++ L) (cells + mc) (slots + ms) ∧ (∀ z ∈ L, free z.base) ∧ T'.heap = t.heap ∧ T'.vm = t.vm ∧ XC E st₀ t ∧ t.heap[q]? = some ce ∧ ce.vm = .none ∧ s.vm.findClass E = some ce.cls ∧
      Steps p.tables e below (T.setTop g) ((T'.setTop { g with stack := rest }).pushFrame (.throwing q)))
def vx_X {S : Type} (px : S → Prop) (B : String → S → State → Prop) (A : Nat → Prop) : String → State → State → Prop := fun E st t => ∃ u : S, px u ∧ B E u t ∧ va_F A st t
section Runs
variable {p : Program} {l : Launch} {e : Env} {R : Room} {s : State} {m : MethodId} {args : Array Value} {below : List Frame} {meth : Method} {c : Code} {H : Heap} {locs : List Loc} {cells slots : Nat}
variable {y : MethodName} {bytes cc : ByteArray} {maxL nL mc ms n index : Nat} {ret : Option FieldType} {ws : List Cond} {rm : Room} {Pc : Array Value → State → Prop} {Qc : Array Value → State → Outcome → State → Prop} {XC : String → State → State → Prop} {free : Addr → Prop} {Ts : List Cond} {own C : String} {b : Addr} {As rest : List Value} {g : JFrame}
theorem vx_callBack (cb : CallB R s args own index y bytes maxL ret ws rm mc ms n) (hM : vx_Met l y ws rm Pc Qc XC mc ms free) (hbl : FrameBlind Pc) : vx_Back l R p e below s args y 3 8 (PreOf R mc ms Pc) (PostOf Qc mc ms free) (vx_Post XC mc ms free) := by
  obtain ⟨hrc, hrs, hfr, hlo, hws, hcw, -, hini, -⟩ := cb
  exact vx_back (bytes := bytes) (maxL := maxL) (ret := ret) hM hbl hrc hrs hfr hlo hws hcw (fun a' U hW => word_at hW (Or.inl (by first | rfl | simp [Cond.onTables, Cond.keeps, Cond.steady])) hini)
theorem vx_runV (S : CallFix p m c cc nL s args Ts own) (hM : vx_Met l y ws rm Pc Qc XC mc ms free) (cw : CallW R s args own C index y bytes maxL ret ws rm mc ms n) (hp : PreV s H C b Pc As)
    (hg : g.method = m) (hn : As.length = n) (hsize : g.locals.size = nL) (hstack : g.stack = As.reverse ++ .ref b :: rest) (hW : 2 * g.monitorRoom + (rest.map fun v => v.category).sum ≤ 8) (hdg : decode cc g.pc = .ok (.invokevirtual index, 3)) (hf : cells + mc ≤ R.cells ∧ slots + ms ≤ R.slots) :
    vx_Run p l e R s m args below meth c H locs cells slots mc ms g rest (Qc (Value.ref b :: As).toArray) XC free := by
  have hK : vx_Back l R p e below s args y 3 8 (PreOf R mc ms Pc) (PostOf Qc mc ms free) (vx_Post XC mc ms free) := vx_callBack cw.1 hM hp.1
  obtain ⟨⟨-, -, -, -, -, -, hcode, -, hy, hlen, hl⟩, hin, hse⟩ := cw
  obtain ⟨hx, hb, hml, ho, -⟩ := S
  obtain ⟨-, ⟨cellB, hcB, hoB, hclB⟩, hPc⟩ := hp
  intro T hT X
  rcases vx_callV X hx (C := C) (bytes := bytes) (maxL := maxL) (ret := ret) ho hl hin hse hcode hy hK (by rw [hT]; exact hcB) hoB hclB hg (hsize.trans hml.symm) (argsL := As) (rest := rest) (fun sig h => hn.trans (hlen sig h)) hstack hW (by rw [hb]; exact hdg)
    (fun vm₁ hW₁ => ⟨hf.1, hf.2, hPc (T.setVm vm₁) hT hW₁⟩) with ⟨v, vm₁, ⟨U', l2, c2, s2⟩, hW₁, X', ⟨g', mk, t, L, e1, e2, hq, h1, hL, h2, h3⟩, st⟩ | ⟨q, vm₁, ⟨U', l2, c2, s2⟩, hW₁, X', ⟨g', mk, t, L, E, ce, e1, e2, hq, hce, hcv, hcl, h1, hL, h2, h3⟩, st⟩
  · dsimp only [Pt.U, Pt.locs, Pt.cells, Pt.slots] at X' e1 e2 h1 h2 h3 st
    subst h1; subst h2; subst h3
    exact Or.inl ⟨v, (T.setVm vm₁).calling g' mk (Value.ref b :: As).toArray, t, U', L, hT, X', hL, e1, e2, hq, st⟩
  · dsimp only [Pt.U, Pt.locs, Pt.cells, Pt.slots] at X' e1 e2 h1 h2 h3 st hcl
    subst h1; subst h2; subst h3
    exact Or.inr ⟨q, (T.setVm vm₁).calling g' mk (Value.ref b :: As).toArray, t, U', L, E, ce, hT, X', hL, e1, e2, hq, hce, hcv, vx_cls hW₁ hcl, st⟩
theorem vx_runS (S : CallFix p m c cc nL s args Ts own) (hM : vx_Met l y ws rm Pc Qc XC mc ms free) (cw : CallB R s args own index y bytes maxL ret ws rm mc ms n ∧ (Cond.static y).before args s = true) (hp : PreS s H Pc As)
    (hg : g.method = m) (hn : As.length = n) (hsize : g.locals.size = nL) (hstack : g.stack = As.reverse ++ rest) (hW : 2 * g.monitorRoom + (rest.map fun v => v.category).sum ≤ 8) (hdg : decode cc g.pc = .ok (.invokestatic index, 3)) (hf : cells + mc ≤ R.cells ∧ slots + ms ≤ R.slots) :
    vx_Run p l e R s m args below meth c H locs cells slots mc ms g rest (Qc As.toArray) XC free := by
  have hK : vx_Back l R p e below s args y 3 8 (PreOf R mc ms Pc) (PostOf Qc mc ms free) (vx_Post XC mc ms free) := vx_callBack cw.1 hM hp.1
  obtain ⟨⟨-, -, -, -, -, -, hcode, hini, hy, hlen, hl⟩, hstt⟩ := cw
  obtain ⟨hx, hb, hml, ho, -⟩ := S
  intro T hT X
  rcases vx_callS X hx (bytes := bytes) (maxL := maxL) (ret := ret) ho hl hstt hini hcode hy hK hg (hsize.trans hml.symm) (argsL := As) (rest := rest) (fun sig h => hn.trans (hlen sig h)) hstack hW (by rw [hb]; exact hdg)
    (fun vm₁ hW₁ => ⟨hf.1, hf.2, hp.2 (T.setVm vm₁) hT hW₁⟩) with ⟨v, vm₁, ⟨U', l2, c2, s2⟩, hW₁, X', ⟨g', mk, t, L, e1, e2, hq, h1, hL, h2, h3⟩, st⟩ | ⟨q, vm₁, ⟨U', l2, c2, s2⟩, hW₁, X', ⟨g', mk, t, L, E, ce, e1, e2, hq, hce, hcv, hcl, h1, hL, h2, h3⟩, st⟩
  · dsimp only [Pt.U, Pt.locs, Pt.cells, Pt.slots] at X' e1 e2 h1 h2 h3 st
    subst h1; subst h2; subst h3
    exact Or.inl ⟨v, (T.setVm vm₁).calling g' mk As.toArray, t, U', L, hT, X', hL, e1, e2, hq, st⟩
  · dsimp only [Pt.U, Pt.locs, Pt.cells, Pt.slots] at X' e1 e2 h1 h2 h3 st hcl
    subst h1; subst h2; subst h3
    exact Or.inr ⟨q, (T.setVm vm₁).calling g' mk As.toArray, t, U', L, E, ce, hT, X', hL, e1, e2, hq, hce, hcv, vx_cls hW₁ hcl, st⟩
end Runs
section Rows
variable {p : Program} {l : Launch} {e : Env} {R : Room} {s : State} {m : MethodId} {args : Array Value} {below : List Frame} {meth : Method} {c : Code} {H : Heap} {locs : List Loc} {cells slots : Nat} {Q : State → Prop}
variable {mc ms : Nat} {free : Addr → Prop} {A0 A1 : Nat → Prop} {H0 : Heap} {a : Array Value} {pc : Nat} {ls : Array Slot} {st0 rest : List Value}
theorem vx_keep {st₀ t T' : State} {L : List Loc} (h0 : st₀.heap = H) (e1 : T'.heap = t.heap) (hS : va_S A0 H0 H locs) (hA : ∀ q, q < H.size → A1 q → A0 q) (hf : ∀ q, free q → A0 q) (hL : ∀ q ∈ L, free q.base) (hF : va_F A1 st₀ t) :
    H.size ≤ T'.heap.size ∧ (∀ q : Nat, q < H.size → ¬ A1 q → T'.heap[q]? = H[q]?) ∧ va_S A0 H0 T'.heap (locs ++ L) := by
  obtain ⟨hz, hk⟩ := hF
  rw [h0] at hz hk
  exact ⟨by rw [e1]; exact hz, fun q h1 h2 => by rw [e1]; exact hk q h1 h2,
    ⟨Nat.le_trans hS.1 (by rw [e1]; exact hz), fun q h1 h2 => by rw [e1, hk q (Nat.lt_of_lt_of_le h1 hS.1) (fun z => h2 (hA q (Nat.lt_of_lt_of_le h1 hS.1) z))]; exact hS.2.1 q h1 h2, fun q hq => by
      rcases List.mem_append.mp hq with h | h
      · exact hS.2.2 q h
      · exact hf _ (hL q h)⟩⟩
theorem vx_calli {S SX : Type} {post : Int32 → S → Prop} {px : SX → Prop} {B : S → State → Prop} {BX : String → SX → State → Prop} {AX : Nat → Prop} (hr : vx_Run p l e R s m args below meth c H locs cells slots mc ms (F0 m pc ls st0) rest (va_Qi post B A1 a) (vx_X px BX AX) free) (hS : va_S A0 H0 H locs) (hA : ∀ q, q < H.size → A1 q → A0 q) (hf : ∀ q, free q → A0 q) (hAX : ∀ q, q < H.size → AX q → A0 q)
    (kx : ∀ (E : String) (ce : Cell) (q9 : Addr) (u : SX) (t : State) (H1 : Heap) (locs1 : List Loc), t.heap = H1 → s.vm.Alike t.vm → px u → BX E u t → H.size ≤ H1.size → (∀ q : Nat, q < H.size → ¬ AX q → H1[q]? = H[q]?) → va_S A0 H0 H1 locs1 → H1[q9]? = some ce → ce.vm = .none → s.vm.findClass E = some ce.cls → vx_W p l e R s m args below meth c H1 locs1 (cells + mc) (slots + ms) Q (F0 m pc ls rest) q9)
    (kk : ∀ (r : Int32) (u : S) (t : State) (H1 : Heap) (locs1 : List Loc), t.heap = H1 → s.vm.Alike t.vm → post r u → B u t → H.size ≤ H1.size → (∀ q : Nat, q < H.size → ¬ A1 q → H1[q]? = H[q]?) → va_S A0 H0 H1 locs1 → W p l e R s m args below meth c H1 locs1 (cells + mc) (slots + ms) Q (F0 m (pc + 3) ls (.int r :: rest))) : W p l e R s m args below meth c H locs cells slots Q (F0 m pc ls st0) := by
  intro T hT X
  rcases hr T hT X with ⟨v, st₀, t, T', L, h0, X', hL, e1, e2, ⟨⟨r, u, hv, hp, hb⟩, hF⟩, st⟩ | ⟨q, st₀, t, T', L, E, ce, h0, X', hL, e1, e2, ⟨u, hp, hb, hF⟩, hce, hcv, hcl, st⟩
  · cases hv
    obtain ⟨k1, k2, k3⟩ := vx_keep h0 e1 hS hA hf hL hF
    obtain ⟨t2, a1, b1⟩ := kk r u t T'.heap (locs ++ L) e1.symm (by rw [← e2]; exact X'.warmed.alike) hp hb k1 k2 k3 T' rfl X'
    exact ⟨t2, st t2 a1, b1⟩
  · obtain ⟨k1, k2, k3⟩ := vx_keep h0 e1 hS hAX hf hL hF
    obtain ⟨t2, a1, b1⟩ := kx E ce q u t T'.heap (locs ++ L) e1.symm (by rw [← e2]; exact X'.warmed.alike) hp hb k1 k2 k3 (by rw [e1]; exact hce) hcv hcl T' rfl X'
    exact ⟨t2, st.trans a1, b1⟩
theorem vx_calll {S SX : Type} {post : Int64 → S → Prop} {px : SX → Prop} {B : S → State → Prop} {BX : String → SX → State → Prop} {AX : Nat → Prop} (hr : vx_Run p l e R s m args below meth c H locs cells slots mc ms (F0 m pc ls st0) rest (va_Ql post B A1 a) (vx_X px BX AX) free) (hS : va_S A0 H0 H locs) (hA : ∀ q, q < H.size → A1 q → A0 q) (hf : ∀ q, free q → A0 q) (hAX : ∀ q, q < H.size → AX q → A0 q)
    (kx : ∀ (E : String) (ce : Cell) (q9 : Addr) (u : SX) (t : State) (H1 : Heap) (locs1 : List Loc), t.heap = H1 → s.vm.Alike t.vm → px u → BX E u t → H.size ≤ H1.size → (∀ q : Nat, q < H.size → ¬ AX q → H1[q]? = H[q]?) → va_S A0 H0 H1 locs1 → H1[q9]? = some ce → ce.vm = .none → s.vm.findClass E = some ce.cls → vx_W p l e R s m args below meth c H1 locs1 (cells + mc) (slots + ms) Q (F0 m pc ls rest) q9)
    (kk : ∀ (r : Int64) (u : S) (t : State) (H1 : Heap) (locs1 : List Loc), t.heap = H1 → s.vm.Alike t.vm → post r u → B u t → H.size ≤ H1.size → (∀ q : Nat, q < H.size → ¬ A1 q → H1[q]? = H[q]?) → va_S A0 H0 H1 locs1 → W p l e R s m args below meth c H1 locs1 (cells + mc) (slots + ms) Q (F0 m (pc + 3) ls (.long r :: rest))) : W p l e R s m args below meth c H locs cells slots Q (F0 m pc ls st0) := by
  intro T hT X
  rcases hr T hT X with ⟨v, st₀, t, T', L, h0, X', hL, e1, e2, ⟨⟨r, u, hv, hp, hb⟩, hF⟩, st⟩ | ⟨q, st₀, t, T', L, E, ce, h0, X', hL, e1, e2, ⟨u, hp, hb, hF⟩, hce, hcv, hcl, st⟩
  · cases hv
    obtain ⟨k1, k2, k3⟩ := vx_keep h0 e1 hS hA hf hL hF
    obtain ⟨t2, a1, b1⟩ := kk r u t T'.heap (locs ++ L) e1.symm (by rw [← e2]; exact X'.warmed.alike) hp hb k1 k2 k3 T' rfl X'
    exact ⟨t2, st t2 a1, b1⟩
  · obtain ⟨k1, k2, k3⟩ := vx_keep h0 e1 hS hAX hf hL hF
    obtain ⟨t2, a1, b1⟩ := kx E ce q u t T'.heap (locs ++ L) e1.symm (by rw [← e2]; exact X'.warmed.alike) hp hb k1 k2 k3 (by rw [e1]; exact hce) hcv hcl T' rfl X'
    exact ⟨t2, st.trans a1, b1⟩
theorem vx_callf {S SX : Type} {post : UInt32 → S → Prop} {px : SX → Prop} {B : S → State → Prop} {BX : String → SX → State → Prop} {AX : Nat → Prop} (hr : vx_Run p l e R s m args below meth c H locs cells slots mc ms (F0 m pc ls st0) rest (va_Qf post B A1 a) (vx_X px BX AX) free) (hS : va_S A0 H0 H locs) (hA : ∀ q, q < H.size → A1 q → A0 q) (hf : ∀ q, free q → A0 q) (hAX : ∀ q, q < H.size → AX q → A0 q)
    (kx : ∀ (E : String) (ce : Cell) (q9 : Addr) (u : SX) (t : State) (H1 : Heap) (locs1 : List Loc), t.heap = H1 → s.vm.Alike t.vm → px u → BX E u t → H.size ≤ H1.size → (∀ q : Nat, q < H.size → ¬ AX q → H1[q]? = H[q]?) → va_S A0 H0 H1 locs1 → H1[q9]? = some ce → ce.vm = .none → s.vm.findClass E = some ce.cls → vx_W p l e R s m args below meth c H1 locs1 (cells + mc) (slots + ms) Q (F0 m pc ls rest) q9)
    (kk : ∀ (r : UInt32) (u : S) (t : State) (H1 : Heap) (locs1 : List Loc), t.heap = H1 → s.vm.Alike t.vm → post r u → B u t → H.size ≤ H1.size → (∀ q : Nat, q < H.size → ¬ A1 q → H1[q]? = H[q]?) → va_S A0 H0 H1 locs1 → W p l e R s m args below meth c H1 locs1 (cells + mc) (slots + ms) Q (F0 m (pc + 3) ls (.float r :: rest))) : W p l e R s m args below meth c H locs cells slots Q (F0 m pc ls st0) := by
  intro T hT X
  rcases hr T hT X with ⟨v, st₀, t, T', L, h0, X', hL, e1, e2, ⟨⟨r, u, hv, hp, hb⟩, hF⟩, st⟩ | ⟨q, st₀, t, T', L, E, ce, h0, X', hL, e1, e2, ⟨u, hp, hb, hF⟩, hce, hcv, hcl, st⟩
  · cases hv
    obtain ⟨k1, k2, k3⟩ := vx_keep h0 e1 hS hA hf hL hF
    obtain ⟨t2, a1, b1⟩ := kk r u t T'.heap (locs ++ L) e1.symm (by rw [← e2]; exact X'.warmed.alike) hp hb k1 k2 k3 T' rfl X'
    exact ⟨t2, st t2 a1, b1⟩
  · obtain ⟨k1, k2, k3⟩ := vx_keep h0 e1 hS hAX hf hL hF
    obtain ⟨t2, a1, b1⟩ := kx E ce q u t T'.heap (locs ++ L) e1.symm (by rw [← e2]; exact X'.warmed.alike) hp hb k1 k2 k3 (by rw [e1]; exact hce) hcv hcl T' rfl X'
    exact ⟨t2, st.trans a1, b1⟩
theorem vx_calld {S SX : Type} {post : UInt64 → S → Prop} {px : SX → Prop} {B : S → State → Prop} {BX : String → SX → State → Prop} {AX : Nat → Prop} (hr : vx_Run p l e R s m args below meth c H locs cells slots mc ms (F0 m pc ls st0) rest (va_Qd post B A1 a) (vx_X px BX AX) free) (hS : va_S A0 H0 H locs) (hA : ∀ q, q < H.size → A1 q → A0 q) (hf : ∀ q, free q → A0 q) (hAX : ∀ q, q < H.size → AX q → A0 q)
    (kx : ∀ (E : String) (ce : Cell) (q9 : Addr) (u : SX) (t : State) (H1 : Heap) (locs1 : List Loc), t.heap = H1 → s.vm.Alike t.vm → px u → BX E u t → H.size ≤ H1.size → (∀ q : Nat, q < H.size → ¬ AX q → H1[q]? = H[q]?) → va_S A0 H0 H1 locs1 → H1[q9]? = some ce → ce.vm = .none → s.vm.findClass E = some ce.cls → vx_W p l e R s m args below meth c H1 locs1 (cells + mc) (slots + ms) Q (F0 m pc ls rest) q9)
    (kk : ∀ (r : UInt64) (u : S) (t : State) (H1 : Heap) (locs1 : List Loc), t.heap = H1 → s.vm.Alike t.vm → post r u → B u t → H.size ≤ H1.size → (∀ q : Nat, q < H.size → ¬ A1 q → H1[q]? = H[q]?) → va_S A0 H0 H1 locs1 → W p l e R s m args below meth c H1 locs1 (cells + mc) (slots + ms) Q (F0 m (pc + 3) ls (.double r :: rest))) : W p l e R s m args below meth c H locs cells slots Q (F0 m pc ls st0) := by
  intro T hT X
  rcases hr T hT X with ⟨v, st₀, t, T', L, h0, X', hL, e1, e2, ⟨⟨r, u, hv, hp, hb⟩, hF⟩, st⟩ | ⟨q, st₀, t, T', L, E, ce, h0, X', hL, e1, e2, ⟨u, hp, hb, hF⟩, hce, hcv, hcl, st⟩
  · cases hv
    obtain ⟨k1, k2, k3⟩ := vx_keep h0 e1 hS hA hf hL hF
    obtain ⟨t2, a1, b1⟩ := kk r u t T'.heap (locs ++ L) e1.symm (by rw [← e2]; exact X'.warmed.alike) hp hb k1 k2 k3 T' rfl X'
    exact ⟨t2, st t2 a1, b1⟩
  · obtain ⟨k1, k2, k3⟩ := vx_keep h0 e1 hS hAX hf hL hF
    obtain ⟨t2, a1, b1⟩ := kx E ce q u t T'.heap (locs ++ L) e1.symm (by rw [← e2]; exact X'.warmed.alike) hp hb k1 k2 k3 (by rw [e1]; exact hce) hcv hcl T' rfl X'
    exact ⟨t2, st.trans a1, b1⟩
theorem vx_callv {S SX : Type} {post : S → Prop} {px : SX → Prop} {B : S → State → Prop} {BX : String → SX → State → Prop} {AX : Nat → Prop} (hr : vx_Run p l e R s m args below meth c H locs cells slots mc ms (F0 m pc ls st0) rest (va_Qv post B A1 a) (vx_X px BX AX) free) (hS : va_S A0 H0 H locs) (hA : ∀ q, q < H.size → A1 q → A0 q) (hf : ∀ q, free q → A0 q) (hAX : ∀ q, q < H.size → AX q → A0 q)
    (kx : ∀ (E : String) (ce : Cell) (q9 : Addr) (u : SX) (t : State) (H1 : Heap) (locs1 : List Loc), t.heap = H1 → s.vm.Alike t.vm → px u → BX E u t → H.size ≤ H1.size → (∀ q : Nat, q < H.size → ¬ AX q → H1[q]? = H[q]?) → va_S A0 H0 H1 locs1 → H1[q9]? = some ce → ce.vm = .none → s.vm.findClass E = some ce.cls → vx_W p l e R s m args below meth c H1 locs1 (cells + mc) (slots + ms) Q (F0 m pc ls rest) q9)
    (kk : ∀ (u : S) (t : State) (H1 : Heap) (locs1 : List Loc), t.heap = H1 → s.vm.Alike t.vm → post u → B u t → H.size ≤ H1.size → (∀ q : Nat, q < H.size → ¬ A1 q → H1[q]? = H[q]?) → va_S A0 H0 H1 locs1 → W p l e R s m args below meth c H1 locs1 (cells + mc) (slots + ms) Q (F0 m (pc + 3) ls (rest))) : W p l e R s m args below meth c H locs cells slots Q (F0 m pc ls st0) := by
  intro T hT X
  rcases hr T hT X with ⟨v, st₀, t, T', L, h0, X', hL, e1, e2, ⟨⟨u, hv, hp, hb⟩, hF⟩, st⟩ | ⟨q, st₀, t, T', L, E, ce, h0, X', hL, e1, e2, ⟨u, hp, hb, hF⟩, hce, hcv, hcl, st⟩
  · cases hv
    obtain ⟨k1, k2, k3⟩ := vx_keep h0 e1 hS hA hf hL hF
    obtain ⟨t2, a1, b1⟩ := kk u t T'.heap (locs ++ L) e1.symm (by rw [← e2]; exact X'.warmed.alike) hp hb k1 k2 k3 T' rfl X'
    exact ⟨t2, st t2 a1, b1⟩
  · obtain ⟨k1, k2, k3⟩ := vx_keep h0 e1 hS hAX hf hL hF
    obtain ⟨t2, a1, b1⟩ := kx E ce q u t T'.heap (locs ++ L) e1.symm (by rw [← e2]; exact X'.warmed.alike) hp hb k1 k2 k3 (by rw [e1]; exact hce) hcv hcl T' rfl X'
    exact ⟨t2, st.trans a1, b1⟩
/-- caught by the row x of this method's table; the rows ahead don't take it -/
theorem vx_catch {own name : String} {E : String} {ce : Cell} {q : Addr} (hown : s.vm.findClass own = some m.cls) (pre : List ExceptionTableEntry) (x : ExceptionTableEntry) (suf : List ExceptionTableEntry) (hsplit : c.exceptionTable.toList = pre ++ x :: suf)
    (hpass : ∀ z ∈ pre, covers z pc = false ∨ (z.catchType ≠ 0 ∧ ∃ nm : String, (Cond.classLink own z.catchType nm).before args s = true ∧ va_Nc E nm s)) (hx : covers x pc = true) (h0 : x.catchType ≠ 0)
    (hlink : (Cond.classLink own x.catchType name).before args s = true) (hcast : (Cond.castable E name).before args s = true) (hcell : H[q]? = some ce) (hv : ce.vm = .none) (hcl : s.vm.findClass E = some ce.cls)
    (kk : W p l e R s m args below meth c H locs cells slots Q (F0 m x.handlerPc ls [.ref q])) : vx_W p l e R s m args below meth c H locs cells slots Q (F0 m pc ls rest) q := by
  intro T hT X
  have hpl : e.platform.magicAccessors = ({} : Platform).magicAccessors := by rw [X.admits.platform]
  obtain ⟨c3, c4, hc3, hc4, hasg⟩ := Cond.castable_spec hcast
  cases Option.some.inj (hc3.symm.trans hcl)
  obtain ⟨c5, hc5, hcl5⟩ := Cond.classLink_spec hown hlink e.platform hpl
  cases Option.some.inj (hc4.symm.trans hc5)
  obtain ⟨vm', X', st⟩ := X.thenCaughtThrough q (g := F0 m pc ls rest) rfl (Steps.refl _) (by rw [hT]; exact hcell) (by rw [hv]; rfl) (by obtain ⟨k9, h9, -⟩ := Vm.findClass_spec hcl; exact ⟨k9, h9⟩) pre x suf hsplit
    (fun z hz => by
      rcases hpass z hz with h | ⟨hz0, nm, hl1, hn1⟩
      · exact Or.inl h
      · obtain ⟨c6, hc6, hcl6⟩ := Cond.classLink_spec hown hl1 e.platform hpl
        obtain ⟨a8, b8, h1, h2, h3⟩ := hn1
        cases Option.some.inj (h1.symm.trans hcl)
        cases Option.some.inj (h2.symm.trans hc6)
        exact Or.inr ⟨hz0, _, hcl6, h3⟩) hx (Or.inr ⟨h0, c4, hcl5, hasg⟩)
  obtain ⟨t, a1, b1⟩ := kk (T.setVm vm') hT X'
  exact ⟨t, st.trans a1, b1⟩
end Rows
section Ends
variable {p : Program} {l : Launch} {e : Env} {R : Room} {s : State} {m : MethodId} {args : Array Value} {below : List Frame} {meth : Method} {c : Code} {H : Heap} {locs : List Loc} {cells slots : Nat} {Q : State → Prop}
variable {mc ms : Nat} {free : Addr → Prop} {A0 A1 : Nat → Prop} {H0 : Heap} {a : Array Value} {ls : Array Slot} {st0 rest : List Value}
variable {Qc : Array Value → State → Outcome → State → Prop} {XC : String → State → State → Prop}
/-- what a body that may throw owes at its end -/
def vx_MQ (below : List Frame) (Qc : Array Value → State → Outcome → State → Prop) (XC : String → State → State → Prop) (a : Array Value) (s : State) (mc ms : Nat) (free : Addr → Prop) : State → Prop := fun t =>
  ∃ o, t.status = .running ∧ Ended t below o ∧ vx_Q Qc XC mc ms free a s o t
theorem vx_ret {g : JFrame} {mc ms : Nat} (k : W p l e R s m args below meth c H locs cells slots (MQ below Qc args s mc ms free) g) : W p l e R s m args below meth c H locs cells slots (vx_MQ below Qc XC args s mc ms free) g := by
  intro T hT X
  obtain ⟨t, a1, o, b1, b2, b3, b4⟩ := k T hT X
  exact ⟨t, a1, o, b1, b2, Or.inl ⟨b3, b4⟩⟩
/-- not caught here: it goes on to the caller -/
theorem vx_widen {g : JFrame} {q : Addr} {k n : Nat} (h1 : cells ≤ k) (h2 : slots ≤ n) (kk : vx_W p l e R s m args below meth c H locs k n Q g q) : vx_W p l e R s m args below meth c H locs cells slots Q g q := fun T hT X => kk T hT (stand_widen X h1 h2)
theorem vx_out {pc : Nat} {E : String} {ce : Cell} {q : Addr} {mc ms : Nat} (hout : ∀ x ∈ c.exceptionTable.toList, covers x pc = false) (hlocks : meth.locks = false) (hcell : H[q]? = some ce) (hv : ce.vm = .none) (hcl : s.vm.findClass E = some ce.cls)
    (hx : ∀ t : State, t.heap = H → s.vm.Alike t.vm → XC E s t) (hf : ∀ z ∈ locs, free z.base) (hc : cells ≤ mc) (hs : slots ≤ ms) :
    vx_W p l e R s m args below meth c H locs cells slots (vx_MQ below Qc XC args s mc ms free) (F0 m pc ls rest) q := by
  intro T hT X
  obtain ⟨st1, hrun, hend, hW, hsm⟩ := X.leaveThrown q (g := F0 m pc ls rest) rfl rfl rfl hout hlocks
  have hcell9 : (T.setFrames (.throwing q :: below)).heap[q]? = some ce := by
    show T.heap[q]? = some ce
    rw [hT]; exact hcell
  exact ⟨_, st1, .threw q, hrun, hend, Or.inr ⟨q, rfl, E, ce, locs, hx _ hT hW.alike, hcell9, hv, hcl, hW, hsm.mono hc hs, hf⟩⟩
theorem vx_frame {U : State} {k n : Nat} (h : s.sameButNew ({ U with vm := s.vm } : State) locs k n) : s.heap.size ≤ U.heap.size ∧ ∀ q : Nat, q < s.heap.size → (∀ z ∈ locs, z.base ≠ q) → U.heap[q]? = s.heap[q]? := by
  obtain ⟨-, h2, -, -, -, h6⟩ := h
  refine ⟨h2, fun q hq hz => ?_⟩
  obtain ⟨c9, e1, e2, e3, e4⟩ := h6 q _ (Array.getElem?_eq_getElem hq)
  have hs : c9.slots = (s.heap[q]).slots := Array.ext_getElem? fun i => e4 i fun hm => hz _ hm rfl
  have h9 : c9 = s.heap[q] := by
    rw [hs] at e2
    exact e2
  have e5 : U.heap[q]? = some c9 := e1
  rw [e5, h9, Array.getElem?_eq_getElem hq]
/-- the words of a throw but the four that speak of the heap -/
def vx_no (w : Cond) : Bool := decide (w ≠ .isRef (.static Bundle.tN "UNASSIGNED_STACK" Bundle.steD)) && decide (w ≠ .isRef (.static Bundle.tN "SUPPRESSED_SENTINEL" Bundle.listD)) && decide (w ≠ .laysStatic Bundle.tN "UNASSIGNED_STACK" Bundle.steD) && decide (w ≠ .laysStatic Bundle.tN "SUPPRESSED_SENTINEL" Bundle.listD)
def vx_at0 (own : String) (ic : Nat) (X : String) (names : List String) : List Cond := (Bundle.ownAtoms0 own ic X names).filter vx_no
def vx_atS (own : String) (ic : Nat) (X : String) (names : List String) : List Cond := (Bundle.ownAtoms own ic X names).filter vx_no
/-- a word that the tables alone decide, or a good one -/
def vx_ot (w : Cond) : Bool := w.onTables || goodWord w
theorem vx_ot_at {args a' : Array Value} {s U : State} {w : Cond} (hW : s.WarmedH U.vm) (hvm : s.vm = U.vm) (hg : vx_ot w = true) (h : w.before args s = true) : w.before a' U = true := by
  simp only [vx_ot, Bool.or_eq_true] at hg
  rcases hg with hg | hg
  · exact va_tabs hg hvm h
  · exact word_at hW (good_of_word hg) h
/-- a list's words: the good ones out of the method's own list, the others by premises of their own -/
theorem vx_hat {args : Array Value} {s : State} {L B : List Cond} (h1 : ∀ w ∈ L.filter goodWord, w.before args s = true) (h2 : ∀ w ∈ L.filter (fun w => !goodWord w), w ∈ B) (h3 : ∀ w ∈ B, w.before args s = true) : ∀ w ∈ L, w.before args s = true := by
  intro w hw
  by_cases g : goodWord w = true
  · exact h1 w (List.mem_filter.mpr ⟨hw, g⟩)
  · refine h3 w (h2 w (List.mem_filter.mpr ⟨hw, ?_⟩))
    show (!goodWord w) = true
    cases hgw : goodWord w
    · rfl
    · exact absurd hgw g
theorem vx_c {args : Array Value} {s : State} {w : Cond} {B : List Cond} (h : w.before args s = true) (t : ∀ w ∈ B, w.before args s = true) : ∀ w' ∈ w :: B, w'.before args s = true := fun w' h' => (List.mem_cons.mp h').elim (fun e => by rw [e]; exact h) (t w')
theorem vx_n {args : Array Value} {s : State} : ∀ w ∈ ([] : List Cond), w.before args s = true := fun _ h => nomatch h
theorem vx_own {args : Array Value} {s : State} {L : List Cond} (h1 : ∀ w ∈ L.filter vx_no, w.before args s = true)
    (hU : (Cond.isRef (.static Bundle.tN "UNASSIGNED_STACK" Bundle.steD)).before args s = true) (hN : (Cond.isRef (.static Bundle.tN "SUPPRESSED_SENTINEL" Bundle.listD)).before args s = true)
    (lU : (Cond.laysStatic Bundle.tN "UNASSIGNED_STACK" Bundle.steD).before args s = true) (lN : (Cond.laysStatic Bundle.tN "SUPPRESSED_SENTINEL" Bundle.listD).before args s = true) : ∀ w ∈ L, w.before args s = true := by
  intro w hw
  by_cases e1 : w = .isRef (.static Bundle.tN "UNASSIGNED_STACK" Bundle.steD)
  · rw [e1]; exact hU
  · by_cases e2 : w = .isRef (.static Bundle.tN "SUPPRESSED_SENTINEL" Bundle.listD)
    · rw [e2]; exact hN
    · by_cases e3 : w = .laysStatic Bundle.tN "UNASSIGNED_STACK" Bundle.steD
      · rw [e3]; exact lU
      · by_cases e4 : w = .laysStatic Bundle.tN "SUPPRESSED_SENTINEL" Bundle.listD
        · rw [e4]; exact lN
        · exact h1 w (List.mem_filter.mpr ⟨hw, by unfold vx_no; rw [decide_eq_true e1, decide_eq_true e2, decide_eq_true e3, decide_eq_true e4]; rfl⟩)
/-- where a static field lies, its class's statics cell in H -/
def vx_L (C n d : String) (A : Nat → Prop) (U : State) (H : Heap) : Prop := ∃ (c : ClassId) (k : Class) (i : Nat) (f : Field) (a : Nat) (cell : Cell), U.vm.findClass C = some c ∧ U.fieldFound? C n d = some (c, k, i, f) ∧ f.isStatic = true ∧ k.statics = some a ∧ H[a]? = some cell ∧ cell.vm.isStatics = true ∧ cell.cls = c ∧ f.slot < cell.slots.size ∧ k.staticTypes[f.slot]? = some f.type ∧ ¬ A a
theorem vx_L.moved {C n d : String} {A : Nat → Prop} {u U : State} {H : Heap} (hvm : u.vm.Alike U.vm) (h : vx_L C n d A u H) : vx_L C n d A U H := by
  obtain ⟨c, k, i, f, a, cell, h1, h2, h3, h4, h5, h6, h7, h8, h9, h10⟩ := h
  obtain ⟨k', hi', he⟩ := State.fieldFound?_setVm hvm h2
  exact ⟨c, k', i, f, a, cell, by rw [hvm.findClass]; exact h1, hi', h3, by rw [he]; exact h4, h5, h6, h7, h8, by rw [he]; exact h9, h10⟩
theorem vx_L.kept {C n d : String} {A : Nat → Prop} {U : State} {H H1 : Heap} (h : vx_L C n d A U H) (hq : ∀ a : Nat, a < H.size → ¬ A a → H1[a]? = H[a]?) : vx_L C n d A U H1 := by
  obtain ⟨c, k, i, f, a, cell, h1, h2, h3, h4, h5, h6, h7, h8, h9, h10⟩ := h
  exact ⟨c, k, i, f, a, cell, h1, h2, h3, h4, by rw [hq a (Array.getElem?_eq_some_iff.mp h5).1 h10]; exact h5, h6, h7, h8, h9, h10⟩
theorem vx_L.narrow {C n d : String} {A B : Nat → Prop} {U : State} {H : Heap} (h : vx_L C n d A U H) (hAB : ∀ q, B q → A q) : vx_L C n d B U H := by
  obtain ⟨c, k, i, f, a, cell, h1, h2, h3, h4, h5, h6, h7, h8, h9, h10⟩ := h
  exact ⟨c, k, i, f, a, cell, h1, h2, h3, h4, h5, h6, h7, h8, h9, fun z => h10 (hAB _ z)⟩
theorem vx_L.word {C n d : String} {A : Nat → Prop} {s : State} {args : Array Value} (h : vx_L C n d A s s.heap) : (Cond.laysStatic C n d).before args s = true := by
  obtain ⟨c, k, i, f, a, cell, h1, h2, h3, h4, h5, h6, h7, h8, h9, -⟩ := h
  show (Cond.laysStatic C n d).holds args s none s [] = true
  exact Cond.laysStatic_of h1 h2 h3 h4 h5 h6 h7 h8 h9
/-- .. and what it holds: null or some reference -/
def vx_Zq (C n d : String) (A : Nat → Prop) (U : State) (H : Heap) : Prop := va_Zq C n d A U H ∧ vx_L C n d A U H
theorem vx_Zq.moved {C n d : String} {A : Nat → Prop} {u U : State} {H : Heap} (hvm : u.vm.Alike U.vm) (h : vx_Zq C n d A u H) : vx_Zq C n d A U H := ⟨va_Zq.moved hvm h.1, vx_L.moved hvm h.2⟩
theorem vx_Zq.kept {C n d : String} {A : Nat → Prop} {U : State} {H H1 : Heap} (h : vx_Zq C n d A U H) (hq : ∀ a : Nat, a < H.size → ¬ A a → H1[a]? = H[a]?) : vx_Zq C n d A U H1 := ⟨va_Zq.kept h.1 hq, vx_L.kept h.2 hq⟩
theorem vx_Zq.narrow {C n d : String} {A B : Nat → Prop} {U : State} {H : Heap} (h : vx_Zq C n d A U H) (hAB : ∀ q, B q → A q) : vx_Zq C n d B U H := ⟨va_Zq.narrow h.1 hAB, vx_L.narrow h.2 hAB⟩
theorem vx_Zqof {args : Array Value} {s : State} {C n d : String} {A : Nat → Prop} (hl : (Cond.laysStatic C n d).before args s = true) (hini : (Cond.initialized C).before args s = true) (h : (Cond.isRef (.static C n d)).before args s = true) (hA : ∀ a : Nat, a < s.heap.size → ¬ A a) : vx_Zq C n d A s s.heap := by
  refine ⟨va_Zqof hl hini h hA, ?_⟩
  obtain ⟨c, k, i, f, a, cell, h1, h2, h3, h4, h5, h6, h7, h8, h9⟩ := Cond.laysStatic_spec hl
  exact ⟨c, k, i, f, a, cell, h1, h2, h3, h4, h5, h6, h7, h8, h9, hA a (Array.getElem?_eq_some_iff.mp h5).1⟩
theorem vx_isRef {C n d : String} {v : Value} {A : Nat → Prop} {s : State} {args : Array Value} (h : va_Z C n d v A s s.heap) (hv : v.isRef = true) : (Cond.isRef (.static C n d)).before args s = true := by
  obtain ⟨cf, kf, fi, f, a, cell, h1, h2, h3, h4, h5, h6, h7, -⟩ := h
  have he : (Term.static C n d).eval args s none [] s = some v := by
    simp [Term.eval, State.fieldNamed?, h1, h2, h4, h5, h6, h7]
  simp only [Cond.before, Cond.holds, Cond.value, he]
  cases v <;> simp_all [Value.isRef]
theorem vx_isRefq {C n d : String} {A : Nat → Prop} {s : State} {args : Array Value} (h : va_Zq C n d A s s.heap) : (Cond.isRef (.static C n d)).before args s = true := by
  rcases h with h | ⟨t, h⟩
  · exact vx_isRef h rfl
  · exact vx_isRef h rfl
/-- the same frame, seen from here: as if the method were called anew in this heap -/
theorem vx_rebase {T : State} (X : Stand p l e R s m args below meth c T locs cells slots) {R' : Room} (hf : R'.frames ≤ R.frames) (hl : R'.locals ≤ R.locals) (hc : cells + R'.cells ≤ R.cells) (hs : slots + R'.slots ≤ R.slots) :
    Stand p l e R' ((T.setVm s.vm).setFrames (.invoking m args :: below)) m args below meth c T [] 0 0 := by
  have htop : (T.setVm s.vm).topJava?.isSome := X.here.top
  have hF : ((T.setVm s.vm).setFrames (.invoking m args :: below)).frames = .invoking m args :: below := State.frames_setFrames _ (State.cur_lt_of_top htop)
  obtain ⟨g₀, hg0⟩ := Option.isSome_iff_exists.mp htop
  obtain ⟨r, hr⟩ := State.topJava?_eq_some.mp hg0
  have hl9 : e.platform.stackLimits (T.setVm s.vm).me = e.platform.stackLimits s.me := X.limits
  have hb9 : (T.setVm s.vm).me.stackBytes = s.me.stackBytes := X.bytes
  refine ⟨X.admits, X.cas, X.clock, hF, ?_, X.hears, X.method, X.code, X.here, X.tail, X.warmed, ?_, ?_, ?_⟩
  · have h := X.room
    have hU : ((T.setVm s.vm).setFrames (.invoking m args :: below)).localsInUse = s.localsInUse := by
      rw [State.localsInUse_invoking hF (meth := meth) (c := c) X.method X.code, State.localsInUse_invoking X.frames X.method X.code]
    simp only [State.hasRoom, Bool.and_eq_true, decide_eq_true_eq] at h ⊢
    obtain ⟨⟨⟨⟨h1, h2, h3, h4, h5, h6⟩, h7⟩, h8⟩, h9⟩ := h
    rw [X.frames, List.length_cons] at h2 h3
    have q1 := X.heapSize
    have q2 := X.used
    simp only [hF, hU, List.length_cons, State.stackLimits_setFrames, State.stackBytes_setFrames, hl9, hb9]
    refine ⟨⟨⟨⟨by omega, by omega, by omega, by omega, by omega, h6⟩, ?_⟩, ?_⟩, X.book⟩
    · show T.heap.size + R'.cells ≤ e.platform.maxCells
      omega
    · show T.slotsUsed + R'.slots ≤ e.platform.maxSlots
      omega
  · rw [State.stackLimits_setFrames]; rfl
  · rw [State.stackBytes_setFrames]; rfl
  · refine ⟨?_, Nat.le_refl _, Nat.le_refl _, ?_, ?_, fun a c9 h9 => ⟨c9, h9, rfl, rfl, fun _ _ => rfl⟩⟩
    · obtain ⟨t, ht, -⟩ := State.frames_cons hr
      show T.setVm s.vm = { ((T.setVm s.vm).setFrames (.invoking m args :: below)).setFrames (T.setVm s.vm).frames with heap := T.heap, slotsUsed := T.slotsUsed }
      rw [State.setFrames_setFrames, State.setFrames_self ht]
      rfl
    · show T.slotsUsed = T.slotsUsed + ((T.heap.toList.drop T.heap.size).map (·.slots.size)).sum
      rw [List.drop_eq_nil_of_le (Nat.le_of_eq Array.length_toList)]
      rfl
    · show ((T.heap.toList.drop T.heap.size).map (·.slots.size)).sum ≤ 0
      rw [List.drop_eq_nil_of_le (Nat.le_of_eq Array.length_toList)]
      exact Nat.le_refl _
/-- 'throw new E()': new; dup; invokespecial; athrow -/
theorem vx_throw0 {cc : ByteArray} {pc : Nat} (hexec : p.tables.exec = Jvm.exec) (hb : c.code = cc) (hl : l.stackTraces = false) {own cls : String} {names : List String} {ik ic mc ms : Nat} {A : Nat → Prop}
    (hown : s.vm.findClass own = some m.cls) (hcls : Bundle.fit cls = true) (hnames : ∀ n ∈ names, Bundle.fit n = true)
    (hk : (Cond.classLink own ik cls).before args s = true) (hini : (Cond.initialized cls).before args s = true) (hat : ∀ w ∈ vx_at0 own ic cls names, w.before args s = true)
    (hgood : ∀ w ∈ Cond.classLink own ik cls :: Cond.initialized cls :: vx_at0 own ic cls names, vx_ot w = true)
    (hU : vx_Zq Bundle.tN "UNASSIGNED_STACK" Bundle.steD A s s.heap) (hN : vx_Zq Bundle.tN "SUPPRESSED_SENTINEL" Bundle.listD A s s.heap) (hS : va_S A s.heap H locs) (hsize : ls.size = c.maxLocals)
    (d0 : decode cc pc = .ok (.new ik, 3)) (d3 : decode cc (pc + 3) = .ok (.dup, 1)) (d4 : decode cc (pc + 4) = .ok (.invokespecial ic, 3)) (d7 : decode cc (pc + 7) = .ok (.athrow, 1))
    (hout : ∀ x ∈ c.exceptionTable.toList, covers x (pc + 7) = false)
    (hRframes : names.length + 3 < R.frames) (hRlocals : (rest.map fun v => v.category).sum + (13 * (names.length + 1) + 42) ≤ R.locals) (hRcells : cells + 1 ≤ R.cells) (hRslots : slots + 6 ≤ R.slots) (hlocks : meth.locks = false)
    (hx : ∀ t : State, s.vm.Alike t.vm → H.size ≤ t.heap.size → (∀ q : Nat, q < H.size → t.heap[q]? = H[q]?) → XC cls s t)
    (hf : ∀ z ∈ locs, free z.base) (hc : cells + 1 ≤ mc) (hs : slots + 6 ≤ ms) :
    W p l e R s m args below meth c H locs cells slots (vx_MQ below Qc XC args s mc ms free) (F0 m pc ls rest) := by
  intro T hT X
  have htr : e.platform.stackTraces = false := (show e.platform.stackTraces = l.stackTraces by rw [X.admits.platform]).trans hl
  have Y := vx_rebase X (R' := { frames := R.frames, locals := R.locals, cells := 1, slots := 6 }) (Nat.le_refl _) (Nat.le_refl _) hRcells hRslots
  obtain ⟨s', hA⟩ : ∃ z, z = (T.setVm s.vm).setFrames (.invoking m args :: below) := ⟨_, rfl⟩
  rw [← hA] at Y
  have hvm : s'.vm = s.vm := by rw [hA]; rfl
  have hhp : s'.heap = H := by rw [hA]; exact hT
  have hW0 : s.WarmedH s'.vm := by rw [hvm]; exact State.WarmedH.refl s
  have hat' : ∀ w ∈ vx_at0 own ic cls names, w.before args s' = true := fun w hw => vx_ot_at hW0 hvm.symm (hgood w (List.mem_cons_of_mem _ (List.mem_cons_of_mem _ hw))) (hat w hw)
  have hk' : (Cond.classLink own ik cls).before args s' = true := vx_ot_at hW0 hvm.symm (hgood _ List.mem_cons_self) hk
  have hini' : (Cond.initialized cls).before args s' = true := vx_ot_at hW0 hvm.symm (hgood _ (List.mem_cons_of_mem _ List.mem_cons_self)) hini
  have hU' : vx_Zq Bundle.tN "UNASSIGNED_STACK" Bundle.steD A s' s'.heap := by rw [hhp]; exact vx_Zq.moved hW0.alike (hU.kept hS.2.1)
  have hN' : vx_Zq Bundle.tN "SUPPRESSED_SENTINEL" Bundle.listD A s' s'.heap := by rw [hhp]; exact vx_Zq.moved hW0.alike (hN.kept hS.2.1)
  have h : ∀ w ∈ Bundle.ownAtoms0 own ic cls names, w.before args s' = true := vx_own hat' (vx_isRefq hU'.1) (vx_isRefq hN'.1) hU'.2.word hN'.2.word
  have hown' : s'.vm.findClass own = some m.cls := by rw [hvm]; exact hown
  have hins : (Cond.instantiable cls 6).before args s' = true := h _ (by simp [Bundle.ownAtoms0])
  obtain ⟨vm₁, cX, kX, hfX, hkX, -, -, X₁, st1⟩ := Y.newCold hexec (own := own) (C := cls) (index := ik) (n := 6) hown' hk' hins hini'
    (g := F0 m pc ls rest) rfl (by rw [hb]; exact d0) (Nat.le_refl _) (Nat.le_refl _)
  generalize hT1 : (T.setVm vm₁).pushCell { cls := cX, slots := kX.instanceTypes.map defaultValue, vm := .none } = T1 at X₁ st1
  have hcat : (Value.ref T.heap.size).category = 1 := rfl
  have hcellA : T1.heap[T.heap.size]? = some (freshCell cX kX) := by rw [← hT1]; exact State.heap_pushCell_size _ _
  have d3' : decode c.code (pc + 3) = .ok (.dup, 1) := by rw [hb]; exact d3
  obtain ⟨U, hsteps, hrun, hend, hW, hsame, ce, hce, hO⟩ := X₁.ctorThrow0 hexec htr (own := own) (cls := cls) (names := names) (ic := ic) hown' hcls hnames h (fun x hx => nomatch hx) hfX hkX hcellA (by rw [hhp, hT]; exact Nat.le_refl _)
    (g := { method := m, pc := pc + 4, locals := ls, stack := .ref T.heap.size :: .ref T.heap.size :: rest, locked := none }) rfl hsize rfl rfl (rest := rest) rfl
    (by rw [hb]; exact d4) (by rw [hb]; exact d7) hout hRframes (by simp only [List.map_cons, List.sum_cons, hcat]; omega) hlocks
  obtain ⟨f1, f2⟩ := vx_frame hsame
  rw [hhp] at f1 f2
  have hWs : s.WarmedH U.vm := State.WarmedH.trans hW0 hW
  have hcl : s.vm.findClass cls = some ce.cls := by
    have h9 := hO.cls
    rw [hvm] at h9
    exact h9
  have hall : s.sameButNew ({ U with vm := s.vm } : State) locs mc ms := by
    subst hA
    obtain ⟨e1, e2⟩ := hsame
    rw [State.setFrames_setFrames] at e1
    have h2 : (T.setVm s.vm).sameButNew ({ U with vm := s.vm } : State) [] (0 + 1) (0 + 6) := ⟨e1, e2⟩
    have h3 := X.same.trans h2
    rw [List.append_nil] at h3
    exact h3.mono hc hs
  refine ⟨U, ?_, .threw T.heap.size, hrun, hend, Or.inr ⟨T.heap.size, rfl, cls, ce, locs, hx U hWs.alike f1 (fun q hq => f2 q hq (fun z hz => nomatch hz)), hce, hO.vm, hcl, hWs, hall, hf⟩⟩
  refine st1 _ ?_
  show Steps p.tables e below (T1.setTop { method := m, pc := pc + 3, locals := ls, stack := .ref T.heap.size :: rest, locked := none }) _
  jvm_step X₁.here [X₁.here.top, hexec, d3', Value.category]
  exact hsteps
/-- 'throw new E("text")': new; dup; ldc; invokespecial; athrow -/
theorem vx_throwS {cc : ByteArray} {pc : Nat} (hexec : p.tables.exec = Jvm.exec) (hb : c.code = cc) (hl : l.stackTraces = false) {own cls text : String} {names : List String} {ik is ic mc ms sa : Nat} {A : Nat → Prop}
    (hown : s.vm.findClass own = some m.cls) (hcls : Bundle.fit cls = true) (hnames : ∀ n ∈ names, Bundle.fit n = true)
    (hk : (Cond.classLink own ik cls).before args s = true) (hini : (Cond.initialized cls).before args s = true) (hstr : vk_R own is text sa s) (hat : ∀ w ∈ vx_atS own ic cls names, w.before args s = true)
    (hgood : ∀ w ∈ Cond.classLink own ik cls :: Cond.initialized cls :: vx_atS own ic cls names, vx_ot w = true)
    (hU : vx_Zq Bundle.tN "UNASSIGNED_STACK" Bundle.steD A s s.heap) (hN : vx_Zq Bundle.tN "SUPPRESSED_SENTINEL" Bundle.listD A s s.heap) (hS : va_S A s.heap H locs) (hsize : ls.size = c.maxLocals)
    (d0 : decode cc pc = .ok (.new ik, 3)) (d3 : decode cc (pc + 3) = .ok (.dup, 1)) (d4 : decode cc (pc + 4) = .ok (.ldc is, 2)) (d6 : decode cc (pc + 6) = .ok (.invokespecial ic, 3)) (d9 : decode cc (pc + 9) = .ok (.athrow, 1))
    (hout : ∀ x ∈ c.exceptionTable.toList, covers x (pc + 9) = false)
    (hRframes : names.length + 3 < R.frames) (hRlocals : (rest.map fun v => v.category).sum + (13 * (names.length + 1) + 43) ≤ R.locals) (hRcells : cells + 1 ≤ R.cells) (hRslots : slots + 6 ≤ R.slots) (hlocks : meth.locks = false)
    (hx : ∀ t : State, s.vm.Alike t.vm → H.size ≤ t.heap.size → (∀ q : Nat, q < H.size → t.heap[q]? = H[q]?) → XC cls s t)
    (hf : ∀ z ∈ locs, free z.base) (hc : cells + 1 ≤ mc) (hs : slots + 6 ≤ ms) :
    W p l e R s m args below meth c H locs cells slots (vx_MQ below Qc XC args s mc ms free) (F0 m pc ls rest) := by
  intro T hT X
  have htr : e.platform.stackTraces = false := (show e.platform.stackTraces = l.stackTraces by rw [X.admits.platform]).trans hl
  have Y := vx_rebase X (R' := { frames := R.frames, locals := R.locals, cells := 1, slots := 6 }) (Nat.le_refl _) (Nat.le_refl _) hRcells hRslots
  obtain ⟨s', hA⟩ : ∃ z, z = (T.setVm s.vm).setFrames (.invoking m args :: below) := ⟨_, rfl⟩
  rw [← hA] at Y
  have hvm : s'.vm = s.vm := by rw [hA]; rfl
  have hhp : s'.heap = H := by rw [hA]; exact hT
  have hW0 : s.WarmedH s'.vm := by rw [hvm]; exact State.WarmedH.refl s
  have hat' : ∀ w ∈ vx_atS own ic cls names, w.before args s' = true := fun w hw => vx_ot_at hW0 hvm.symm (hgood w (List.mem_cons_of_mem _ (List.mem_cons_of_mem _ hw))) (hat w hw)
  have hk' : (Cond.classLink own ik cls).before args s' = true := vx_ot_at hW0 hvm.symm (hgood _ List.mem_cons_self) hk
  have hini' : (Cond.initialized cls).before args s' = true := vx_ot_at hW0 hvm.symm (hgood _ (List.mem_cons_of_mem _ List.mem_cons_self)) hini
  have hU' : vx_Zq Bundle.tN "UNASSIGNED_STACK" Bundle.steD A s' s'.heap := by rw [hhp]; exact vx_Zq.moved hW0.alike (hU.kept hS.2.1)
  have hN' : vx_Zq Bundle.tN "SUPPRESSED_SENTINEL" Bundle.listD A s' s'.heap := by rw [hhp]; exact vx_Zq.moved hW0.alike (hN.kept hS.2.1)
  have h : ∀ w ∈ Bundle.ownAtoms own ic cls names, w.before args s' = true := vx_own hat' (vx_isRefq hU'.1) (vx_isRefq hN'.1) hU'.2.word hN'.2.word
  have hown' : s'.vm.findClass own = some m.cls := by rw [hvm]; exact hown
  have hins : (Cond.instantiable cls 6).before args s' = true := h _ (by simp [Bundle.ownAtoms])
  obtain ⟨vm₁, cX, kX, hfX, hkX, -, -, X₁, st1⟩ := Y.newCold hexec (own := own) (C := cls) (index := ik) (n := 6) hown' hk' hins hini'
    (g := F0 m pc ls rest) rfl (by rw [hb]; exact d0) (Nat.le_refl _) (Nat.le_refl _)
  generalize hT1 : (T.setVm vm₁).pushCell { cls := cX, slots := kX.instanceTypes.map defaultValue, vm := .none } = T1 at X₁ st1
  have hcat : (Value.ref T.heap.size).category = 1 := rfl
  have hcellA : T1.heap[T.heap.size]? = some (freshCell cX kX) := by rw [← hT1]; exact State.heap_pushCell_size _ _
  have d3' : decode c.code (pc + 3) = .ok (.dup, 1) := by rw [hb]; exact d3
  have d4' : decode c.code (pc + 4) = .ok (.ldc is, 2) := by rw [hb]; exact d4
  have hstr' : vk_R own is text sa s' := vk_R.warm hW0 hstr
  obtain ⟨U, hsteps, hrun, hend, hW, hsame, ce, hce, hO⟩ := X₁.ctorThrowS hexec htr (own := own) (cls := cls) (names := names) (ic := ic) hown' hcls hnames h (fun x hx => nomatch hx) hfX hkX hcellA (by rw [hhp, hT]; exact Nat.le_refl _) (msg := .ref sa) rfl
    (g := { method := m, pc := pc + 6, locals := ls, stack := .ref sa :: .ref T.heap.size :: .ref T.heap.size :: rest, locked := none }) rfl hsize rfl rfl (rest := rest) rfl
    (by rw [hb]; exact d6) (by rw [hb]; exact d9) hout hRframes (by simp only [List.map_cons, List.sum_cons, hcat]; omega) hlocks
  obtain ⟨f1, f2⟩ := vx_frame hsame
  rw [hhp] at f1 f2
  have hWs : s.WarmedH U.vm := State.WarmedH.trans hW0 hW
  have hcl : s.vm.findClass cls = some ce.cls := by
    have h9 := hO.cls
    rw [hvm] at h9
    exact h9
  have hall : s.sameButNew ({ U with vm := s.vm } : State) locs mc ms := by
    subst hA
    obtain ⟨e1, e2⟩ := hsame
    rw [State.setFrames_setFrames] at e1
    have h2 : (T.setVm s.vm).sameButNew ({ U with vm := s.vm } : State) [] (0 + 1) (0 + 6) := ⟨e1, e2⟩
    have h3 := X.same.trans h2
    rw [List.append_nil] at h3
    exact h3.mono hc hs
  refine ⟨U, ?_, .threw T.heap.size, hrun, hend, Or.inr ⟨T.heap.size, rfl, cls, ce, locs, hx U hWs.alike f1 (fun q hq => f2 q hq (fun z hz => nomatch hz)), hce, hO.vm, hcl, hWs, hall, hf⟩⟩
  refine st1 _ ?_
  show Steps p.tables e below (T1.setTop { method := m, pc := pc + 3, locals := ls, stack := .ref T.heap.size :: rest, locked := none }) _
  jvm_step X₁.here [X₁.here.top, hexec, d3', Value.category]
  exact X₁.ldcString hexec (own := own) (text := text) (index := is) (a := sa) hown' hstr'.1 hstr'.2
    (g := { method := m, pc := pc + 4, locals := ls, stack := .ref T.heap.size :: .ref T.heap.size :: rest, locked := none }) rfl d4' _ hsteps
/-- 'throw new E("text")', the text by a wide index -/
theorem vx_throwSW {cc : ByteArray} {pc : Nat} (hexec : p.tables.exec = Jvm.exec) (hb : c.code = cc) (hl : l.stackTraces = false) {own cls text : String} {names : List String} {ik is ic mc ms sa : Nat} {A : Nat → Prop}
    (hown : s.vm.findClass own = some m.cls) (hcls : Bundle.fit cls = true) (hnames : ∀ n ∈ names, Bundle.fit n = true)
    (hk : (Cond.classLink own ik cls).before args s = true) (hini : (Cond.initialized cls).before args s = true) (hstr : vk_R own is text sa s) (hat : ∀ w ∈ vx_atS own ic cls names, w.before args s = true)
    (hgood : ∀ w ∈ Cond.classLink own ik cls :: Cond.initialized cls :: vx_atS own ic cls names, vx_ot w = true)
    (hU : vx_Zq Bundle.tN "UNASSIGNED_STACK" Bundle.steD A s s.heap) (hN : vx_Zq Bundle.tN "SUPPRESSED_SENTINEL" Bundle.listD A s s.heap) (hS : va_S A s.heap H locs) (hsize : ls.size = c.maxLocals)
    (d0 : decode cc pc = .ok (.new ik, 3)) (d3 : decode cc (pc + 3) = .ok (.dup, 1)) (d4 : decode cc (pc + 4) = .ok (.ldc_w is, 3)) (d7 : decode cc (pc + 7) = .ok (.invokespecial ic, 3)) (d10 : decode cc (pc + 10) = .ok (.athrow, 1))
    (hout : ∀ x ∈ c.exceptionTable.toList, covers x (pc + 10) = false)
    (hRframes : names.length + 3 < R.frames) (hRlocals : (rest.map fun v => v.category).sum + (13 * (names.length + 1) + 43) ≤ R.locals) (hRcells : cells + 1 ≤ R.cells) (hRslots : slots + 6 ≤ R.slots) (hlocks : meth.locks = false)
    (hx : ∀ t : State, s.vm.Alike t.vm → H.size ≤ t.heap.size → (∀ q : Nat, q < H.size → t.heap[q]? = H[q]?) → XC cls s t)
    (hf : ∀ z ∈ locs, free z.base) (hc : cells + 1 ≤ mc) (hs : slots + 6 ≤ ms) :
    W p l e R s m args below meth c H locs cells slots (vx_MQ below Qc XC args s mc ms free) (F0 m pc ls rest) := by
  intro T hT X
  have htr : e.platform.stackTraces = false := (show e.platform.stackTraces = l.stackTraces by rw [X.admits.platform]).trans hl
  have Y := vx_rebase X (R' := { frames := R.frames, locals := R.locals, cells := 1, slots := 6 }) (Nat.le_refl _) (Nat.le_refl _) hRcells hRslots
  obtain ⟨s', hA⟩ : ∃ z, z = (T.setVm s.vm).setFrames (.invoking m args :: below) := ⟨_, rfl⟩
  rw [← hA] at Y
  have hvm : s'.vm = s.vm := by rw [hA]; rfl
  have hhp : s'.heap = H := by rw [hA]; exact hT
  have hW0 : s.WarmedH s'.vm := by rw [hvm]; exact State.WarmedH.refl s
  have hat' : ∀ w ∈ vx_atS own ic cls names, w.before args s' = true := fun w hw => vx_ot_at hW0 hvm.symm (hgood w (List.mem_cons_of_mem _ (List.mem_cons_of_mem _ hw))) (hat w hw)
  have hk' : (Cond.classLink own ik cls).before args s' = true := vx_ot_at hW0 hvm.symm (hgood _ List.mem_cons_self) hk
  have hini' : (Cond.initialized cls).before args s' = true := vx_ot_at hW0 hvm.symm (hgood _ (List.mem_cons_of_mem _ List.mem_cons_self)) hini
  have hU' : vx_Zq Bundle.tN "UNASSIGNED_STACK" Bundle.steD A s' s'.heap := by rw [hhp]; exact vx_Zq.moved hW0.alike (hU.kept hS.2.1)
  have hN' : vx_Zq Bundle.tN "SUPPRESSED_SENTINEL" Bundle.listD A s' s'.heap := by rw [hhp]; exact vx_Zq.moved hW0.alike (hN.kept hS.2.1)
  have h : ∀ w ∈ Bundle.ownAtoms own ic cls names, w.before args s' = true := vx_own hat' (vx_isRefq hU'.1) (vx_isRefq hN'.1) hU'.2.word hN'.2.word
  have hown' : s'.vm.findClass own = some m.cls := by rw [hvm]; exact hown
  have hins : (Cond.instantiable cls 6).before args s' = true := h _ (by simp [Bundle.ownAtoms])
  obtain ⟨vm₁, cX, kX, hfX, hkX, -, -, X₁, st1⟩ := Y.newCold hexec (own := own) (C := cls) (index := ik) (n := 6) hown' hk' hins hini'
    (g := F0 m pc ls rest) rfl (by rw [hb]; exact d0) (Nat.le_refl _) (Nat.le_refl _)
  generalize hT1 : (T.setVm vm₁).pushCell { cls := cX, slots := kX.instanceTypes.map defaultValue, vm := .none } = T1 at X₁ st1
  have hcat : (Value.ref T.heap.size).category = 1 := rfl
  have hcellA : T1.heap[T.heap.size]? = some (freshCell cX kX) := by rw [← hT1]; exact State.heap_pushCell_size _ _
  have d3' : decode c.code (pc + 3) = .ok (.dup, 1) := by rw [hb]; exact d3
  have d4' : decode c.code (pc + 4) = .ok (.ldc_w is, 3) := by rw [hb]; exact d4
  have hstr' : vk_R own is text sa s' := vk_R.warm hW0 hstr
  obtain ⟨U, hsteps, hrun, hend, hW, hsame, ce, hce, hO⟩ := X₁.ctorThrowS hexec htr (own := own) (cls := cls) (names := names) (ic := ic) hown' hcls hnames h (fun x hx => nomatch hx) hfX hkX hcellA (by rw [hhp, hT]; exact Nat.le_refl _) (msg := .ref sa) rfl
    (g := { method := m, pc := pc + 7, locals := ls, stack := .ref sa :: .ref T.heap.size :: .ref T.heap.size :: rest, locked := none }) rfl hsize rfl rfl (rest := rest) rfl
    (by rw [hb]; exact d7) (by rw [hb]; exact d10) hout hRframes (by simp only [List.map_cons, List.sum_cons, hcat]; omega) hlocks
  obtain ⟨f1, f2⟩ := vx_frame hsame
  rw [hhp] at f1 f2
  have hWs : s.WarmedH U.vm := State.WarmedH.trans hW0 hW
  have hcl : s.vm.findClass cls = some ce.cls := by
    have h9 := hO.cls
    rw [hvm] at h9
    exact h9
  have hall : s.sameButNew ({ U with vm := s.vm } : State) locs mc ms := by
    subst hA
    obtain ⟨e1, e2⟩ := hsame
    rw [State.setFrames_setFrames] at e1
    have h2 : (T.setVm s.vm).sameButNew ({ U with vm := s.vm } : State) [] (0 + 1) (0 + 6) := ⟨e1, e2⟩
    have h3 := X.same.trans h2
    rw [List.append_nil] at h3
    exact h3.mono hc hs
  refine ⟨U, ?_, .threw T.heap.size, hrun, hend, Or.inr ⟨T.heap.size, rfl, cls, ce, locs, hx U hWs.alike f1 (fun q hq => f2 q hq (fun z hz => nomatch hz)), hce, hO.vm, hcl, hWs, hall, hf⟩⟩
  refine st1 _ ?_
  show Steps p.tables e below (T1.setTop { method := m, pc := pc + 3, locals := ls, stack := .ref T.heap.size :: rest, locked := none }) _
  jvm_step X₁.here [X₁.here.top, hexec, d3', Value.category]
  exact X₁.ldcStringW hexec (own := own) (text := text) (index := is) (a := sa) hown' hstr'.1 hstr'.2
    (g := { method := m, pc := pc + 4, locals := ls, stack := .ref T.heap.size :: .ref T.heap.size :: rest, locked := none }) rfl d4' _ hsteps
end Ends
section Bodies
variable {l : Launch}
theorem vx_ofW {y : MethodName} {ws ws' : List Cond} {rm : Room} {Pc : Array Value → State → Prop} {Qc : Array Value → State → Outcome → State → Prop} {XC : String → State → State → Prop} {mc ms : Nat} {free : Addr → Prop} {cc : ByteArray} {maxL : Nat} {ret : Option FieldType}
    (hy : plainName y.cls = true) (hw : ws = Cond.code y cc maxL ret :: ws')
    (body : ∀ p e s m args below meth c s₁, BodyLoose p l y (headSpec ws rm) cc maxL ret e s m args below meth c s₁ → c.maxLocals = maxL → (∀ x ∈ c.exceptionTable.toList, False) → Pc args s →
      W p l e (headSpec ws rm).room s m args below meth c s.heap [] 0 0 (vx_MQ below Qc XC args s mc ms free) (entryFrame m args maxL)) : vx_Met l y ws rm Pc Qc XC mc ms free := by
  refine MetFree.of_bodyS (code := cc) (maxLocals := maxL) (ret := ret) hy ?_ ?_
  · intro args s m h hn
    obtain ⟨meth, c, h1, h2, h3, h4, h5, h6, -, -⟩ := Cond.code_spec hn (atoms_spec (ws := ws) h _ (by rw [hw]; exact List.mem_cons_self))
    exact ⟨meth, c, h1, h2, h3, h4, h5, h6⟩
  · intro p e s m args below meth c s₁ B hml hP _
    have hh0 : s₁.heap = s.heap := by rw [B.state]; rfl
    have ht : ∀ x ∈ c.exceptionTable.toList, False := by
      obtain ⟨meth9, c9, h1, h2, -, -, -, -, h7, -⟩ := Cond.code_spec B.named (atoms_spec (ws := ws) B.pre _ (by rw [hw]; exact List.mem_cons_self))
      cases Option.some.inj (h1.symm.trans B.method)
      cases Option.some.inj (h2.symm.trans (Stand.of_body B).code)
      intro x hx
      rw [Array.isEmpty_iff.mp h7] at hx
      cases hx
    obtain ⟨t, a1, o, b1, b2, b3⟩ := body p e s m args below meth c s₁ B hml ht hP s₁ hh0 (Stand.of_body B)
    exact ⟨t, o, a1, b1, b2, b3⟩
/-- the table of a body with handlers -/
theorem vx_table {p : Program} {x y : MethodName} {S : Spec} {cc bytes : ByteArray} {maxL maxL' : Nat} {ret ret' : Option FieldType} {e : Env} {s s₁ : State} {m : MethodId} {args : Array Value} {below : List Frame} {meth : Method} {c : Code} {hh : List (Nat × Nat × Nat × Nat)}
    (B : BodyLoose p l y S cc maxL ret e s m args below meth c s₁) (h : (Cond.codeWith y bytes maxL' ret' hh).before args s = true) : c.exceptionTable.toList = tableOf hh := by
  obtain ⟨m9, meth9, c9, hn9, h1, h2, -, -, h6, -⟩ := Cond.codeWith_spec h
  cases Option.some.inj (hn9.symm.trans B.named)
  cases Option.some.inj (h1.symm.trans B.method)
  cases Option.some.inj (h2.symm.trans (Stand.of_body B).code)
  rw [← h6, table_eq]
end Bodies
end VXA
/-! ===== END ===== -/
/-! ===== BEGIN a static call of a method with an exception table ===== -/
section VXS
variable {p : Program} {l : Launch} {e : Env} {R : Room} {s : State} {m : MethodId} {args : Array Value} {below : List Frame} {meth : Method} {c : Code} {T : State} {H : Heap} {locs : List Loc} {cells slots : Nat}
abbrev vx_CSW (R : Room) (s : State) (args : Array Value) (own : String) (index : Nat) (y : MethodName) (bytes : ByteArray) (maxL : Nat) (ret : Option FieldType) (hh : List (Nat × Nat × Nat × Nat)) (ws : List Cond) (rm : Room) (mc ms n : Nat) : Prop :=
  (rm.cells = mc ∧ rm.slots = ms ∧ rm.frames + 1 ≤ R.frames ∧ 8 + (maxL + 11) + rm.locals ≤ R.locals ∧ (∀ w ∈ ws, ∀ (a' : Array Value) (U : State), s.WarmedH U.vm → w.before a' U = true) ∧ Cond.codeWith y bytes maxL ret hh ∈ ws) ∧
  (Cond.codeWith y bytes maxL ret hh).before args s = true ∧ (Cond.initialized y.cls).before args s = true ∧ (y.cls ≠ "java/lang/invoke/MethodHandle" ∧ y.cls ≠ "java/lang/invoke/VarHandle") ∧
  (∀ sig, parseMethodDescriptor y.desc = some sig → n = sig.parameters.length) ∧ (Cond.methodLink own index y).before args s = true ∧ (Cond.static y).before args s = true
theorem vx_cwSW {own : String} {index maxL mc ms : Nat} {y : MethodName} {bytes : ByteArray} {ret : Option FieldType} {hh : List (Nat × Nat × Nat × Nat)} {Ts ws ws' : List Cond} {rm : Room} (n : Nat) (ht : ∀ w ∈ Ts, w.before args s = true) (hT : GoodIn Ts (va_wsS own index y ws)) (hw : ws = Cond.codeWith y bytes maxL ret hh :: ws') (hrc : rm.cells = mc) (hrs : rm.slots = ms)
    (hd : y.cls ≠ "java/lang/invoke/MethodHandle" ∧ y.cls ≠ "java/lang/invoke/VarHandle" ∧ (parseMethodDescriptor y.desc).map (fun d => d.parameters.length) = some n) (hR : rm.frames + 1 ≤ R.frames ∧ 8 + (maxL + 11) + rm.locals ≤ R.locals) :
    vx_CSW R s args own index y bytes maxL ret hh ws rm mc ms n := by
  have ok : ∀ w ∈ va_wsS own index y ws, w.before args s = true := fun w h => ht w (hT w h).1
  have hG : GoodIn Ts ws := fun w h => hT w (by unfold va_wsS; exact List.mem_append_right _ h)
  have hc : Cond.codeWith y bytes maxL ret hh ∈ ws := by rw [hw]; exact List.mem_cons_self
  refine ⟨⟨hrc, hrs, hR.1, hR.2, pay_in ht hG, hc⟩, ht _ (hG _ hc).1, ok _ (by simp [va_wsS]), ⟨hd.1, hd.2.1⟩, fun sig h => ?_, ok _ (by simp [va_wsS]), ok _ (by simp [va_wsS])⟩
  have h2 := hd.2.2
  rw [h] at h2
  exact (Option.some.inj h2).symm
theorem vx_callSW (X : Stand p l e R s m args below meth c T locs cells slots) (hexec : p.tables.exec = Jvm.exec) {own : String} {index : Nat} {y : MethodName} {bytes : ByteArray} {maxL : Nat} {ret : Option FieldType} {hh : List (Nat × Nat × Nat × Nat)}
    (hown : s.vm.findClass own = some m.cls) (hlink : (Cond.methodLink own index y).before args s = true) (hstat : (Cond.static y).before args s = true) (hinit : (Cond.initialized y.cls).before args s = true)
    (hcode : (Cond.codeWith y bytes maxL ret hh).before args s = true) (hy : y.cls ≠ "java/lang/invoke/MethodHandle" ∧ y.cls ≠ "java/lang/invoke/VarHandle")
    {W9 : Nat} {Pre : Pt → Array Value → Prop} {Post : Pt → Array Value → Option Value → Pt → Prop} (hK : Back l R p e below s args y 3 W9 Pre Post)
    {g : JFrame} (hg : g.method = m) (hsize : g.locals.size = c.maxLocals) {argsL rest : List Value} (hlen : ∀ sig, parseMethodDescriptor y.desc = some sig → argsL.length = sig.parameters.length)
    (hstack : g.stack = argsL.reverse ++ rest) (hW : 2 * g.monitorRoom + (rest.map fun v => v.category).sum ≤ W9) (hdg : decode c.code g.pc = .ok (.invokestatic index, 3))
    (hpre : ∀ vm₁, s.WarmedH vm₁ → Pre ⟨T.setVm vm₁, locs, cells, slots⟩ argsL.toArray) :
    ∃ (v : Option Value) (vm₁ : Vm) (B : Pt), s.WarmedH vm₁ ∧ Stand p l e R s m args below meth c B.U B.locs B.cells B.slots ∧ Post ⟨T.setVm vm₁, locs, cells, slots⟩ argsL.toArray v B ∧
      ∀ target, Steps p.tables e below (B.U.setTop { g with pc := g.pc + 3, stack := v.toList ++ rest }) target → Steps p.tables e below (T.setTop g) target := by
  obtain ⟨mk, methM, cM, hnamed, hmethM, -, -, -, -, -, -, hsigM⟩ := Cond.codeWith_spec hcode
  have hstatic : methM.isStatic = true := Cond.static_spec hnamed hmethM hstat
  obtain ⟨kP, hkP, -⟩ := className_of_methodNamed hnamed
  have hinitP : kP.init = .initialized := Cond.initialized_spec (findClass_of_methodNamed hnamed) hkP hinit
  obtain ⟨vm₁, X₁, hstep₁⟩ := X.invokestatic hexec hown hlink hnamed hmethM hstatic hkP hinitP hy (g := g) hg (argsL := argsL) (rest := rest) (hlen _ hsigM) hstack hdg
  obtain ⟨v, B, X', hpost, hsteps⟩ := hK m meth c ⟨T.setVm vm₁, locs, cells, slots⟩ { g with stack := rest } (.invokestatic index) mk argsL.toArray X₁ hg hsize hdg hW (X₁.named hnamed) (hpre vm₁ X₁.warmed)
  exact ⟨v, vm₁, B, X₁.warmed, X', hpost, fun target h => hstep₁ _ fun acts => by rw [doInvoke_state]; exact hsteps.trans h⟩
theorem vx_runSW {y : MethodName} {bytes cc : ByteArray} {maxL nL mc ms n index : Nat} {ret : Option FieldType} {hh : List (Nat × Nat × Nat × Nat)} {ws : List Cond} {rm : Room} {Pc : Array Value → State → Prop} {Qc : Array Value → State → Outcome → State → Prop} {free : Addr → Prop} {Ts : List Cond} {own : String} {As rest : List Value} {g : JFrame}
    (S : CallFix p m c cc nL s args Ts own) (hM : Met l y ws rm Pc Qc mc ms free) (cw : vx_CSW R s args own index y bytes maxL ret hh ws rm mc ms n) (hp : PreS s H Pc As)
    (hg : g.method = m) (hn : As.length = n) (hsize : g.locals.size = nL) (hstack : g.stack = As.reverse ++ rest) (hW : 2 * g.monitorRoom + (rest.map fun v => v.category).sum ≤ 8) (hdg : decode cc g.pc = .ok (.invokestatic index, 3)) (hf : cells + mc ≤ R.cells ∧ slots + ms ≤ R.slots) :
    va_Run p l e R s m args below meth c H locs cells slots mc ms g rest (Qc As.toArray) (free) := by
  obtain ⟨⟨hrc, hrs, hfr, hlo, hws, hcw⟩, hcode, hini, hy, hlen, hl, hstt⟩ := cw
  have hK : Back l R p e below s args y 3 8 (PreOf R mc ms Pc) (PostOf Qc mc ms free) := va_backW (hh := hh) (bytes := bytes) (maxL := maxL) (ret := ret) hM hp.1 hrc hrs hfr hlo hws hcw (fun a' U hW => word_at hW (Or.inl (by first | rfl | simp [Cond.onTables, Cond.keeps, Cond.steady])) hini)
  obtain ⟨hx, hb, hml, ho, -⟩ := S
  intro T hT X
  obtain ⟨v, vm₁, ⟨U', l2, c2, s2⟩, hW₁, X', ⟨g', mk, t, L, e1, e2, hq, h1, hL, h2, h3⟩, st⟩ := vx_callSW X hx (hh := hh) (bytes := bytes) (maxL := maxL) (ret := ret) ho hl hstt hini hcode hy hK hg (hsize.trans hml.symm) (argsL := As) (rest := rest) (fun sig h => hn.trans (hlen sig h)) hstack hW (by rw [hb]; exact hdg)
    (fun vm₁ hW₁ => ⟨hf.1, hf.2, hp.2 (T.setVm vm₁) hT hW₁⟩)
  dsimp only [Pt.U, Pt.locs, Pt.cells, Pt.slots] at X' e1 e2 h1 h2 h3 st
  subst h1; subst h2; subst h3
  exact ⟨v, (T.setVm vm₁).calling g' mk As.toArray, t, U', L, hT, X', hL, e1, e2, hq, st⟩
/-- not caught here, past rows that name other classes: it goes on to the caller -/
theorem vx_outP {p : Program} {l : Launch} {e : Env} {R : Room} {s : State} {m : MethodId} {args : Array Value} {below : List Frame} {meth : Method} {c : Code} {H : Heap} {locs : List Loc} {cells slots : Nat} {free : Addr → Prop} {ls : Array Slot} {rest : List Value} {Qc : Array Value → State → Outcome → State → Prop} {XC : String → State → State → Prop}
    {pc : Nat} {own E : String} {ce : Cell} {q : Addr} {mc ms : Nat} (hown : s.vm.findClass own = some m.cls) (hlocks : meth.locks = false)
    (hpass : ∀ z ∈ c.exceptionTable.toList, covers z pc = false ∨ (z.catchType ≠ 0 ∧ ∃ nm : String, (Cond.classLink own z.catchType nm).before args s = true ∧ va_Nc E nm s)) (hcell : H[q]? = some ce) (hv : ce.vm = .none) (hcl : s.vm.findClass E = some ce.cls)
    (hx : ∀ t : State, t.heap = H → s.vm.Alike t.vm → XC E s t) (hf : ∀ z ∈ locs, free z.base) (hc : cells ≤ mc) (hs : slots ≤ ms) :
    vx_W p l e R s m args below meth c H locs cells slots (vx_MQ below Qc XC args s mc ms free) (F0 m pc ls rest) q := by
  intro T hT X
  have hpl : e.platform.magicAccessors = ({} : Platform).magicAccessors := by rw [X.admits.platform]
  obtain ⟨vm', hW', X', st⟩ := X.outThrough hlocks q (g := F0 m pc ls rest) rfl rfl rfl (cell := ce) (by rw [hT]; exact hcell) (by rw [hv]; rfl)
    (by obtain ⟨k9, h9, -⟩ := Vm.findClass_spec hcl; exact ⟨k9, h9⟩) (fun z hz => by
      rcases hpass z hz with h | ⟨hz0, nm, hl1, hn1⟩
      · exact Or.inl h
      · obtain ⟨c6, hc6, hcl6⟩ := Cond.classLink_spec hown hl1 e.platform hpl
        obtain ⟨a8, b8, h1, h2, h3⟩ := hn1
        cases Option.some.inj (h1.symm.trans hcl)
        cases Option.some.inj (h2.symm.trans hc6)
        exact Or.inr ⟨hz0, _, hcl6, h3⟩)
  obtain ⟨g₀, hfr⟩ := X'.frames_eq
  have hcell9 : ((T.setVm vm').setFrames (.throwing q :: below)).heap[q]? = some ce := by
    show T.heap[q]? = some ce
    rw [hT]; exact hcell
  have hend : Ended ((T.setVm vm').setFrames (.throwing q :: below)) below (.threw q) := State.frames_setFrames _ (State.cur_lt_of_frames hfr)
  refine ⟨(T.setVm vm').setFrames (.throwing q :: below), ?_, .threw q, X'.here.running, hend, Or.inr ⟨q, rfl, E, ce, locs, hx _ hT (X'.ends _).1.alike, hcell9, hv, hcl, (X'.ends _).1, (X'.ends _).2.mono hc hs, hf⟩⟩
  rw [X.pushThrowing_eq]
  exact st
/-- a thing of a world lies in the heap -/
theorem vx_lt {D : va_G} {cl : List vw_C} {ws : va_W} {H1 : Heap} (h : va_P D cl ws H1) {k : Nat} {q : Nat × va_E} (hk : ws[k]? = some q) : q.1 < H1.size := (h k q hk).lt
end VXS
/-! ===== END ===== -/
/-! ===== BEGIN methods with a table of their own: called by a name, returning or throwing ===== -/
section VXH
/-! vx_backW, vx_callVX, vx_callSX, vx_callVW, vx_runVW, vx_runVX, vx_runSX, vx_ofWH follow the same proofs as their sisters above (Free/Laws.lean, Shelf42/LK1.lean); vx_outP calls Shelf42/NT130.lean (outThrough). -/
section
variable {l : Launch} {R : Room} {p : Program} {e : Env} {below : List Frame} {s : State} {sargs : Array Value} {y : MethodName} {len W9 : Nat}
theorem vx_backW {ws : List Cond} {rm : Room} {Pc : Array Value → State → Prop} {Qc : Array Value → State → Outcome → State → Prop} {XC : String → State → State → Prop} {mc ms : Nat} {free : Addr → Prop} {bytes : ByteArray} {maxL : Nat} {ret : Option FieldType} {hh : List (Nat × Nat × Nat × Nat)}
    (hM : vx_Met l y ws rm Pc Qc XC mc ms free) (hblind : FrameBlind Pc) (hrc : rm.cells = mc) (hrs : rm.slots = ms)
    (hframes : rm.frames + 1 ≤ R.frames) (hlocals : W9 + (maxL + 11) + rm.locals ≤ R.locals)
    (hws : ∀ w ∈ ws, ∀ a' U, s.WarmedH U.vm → w.before a' U = true) (hcode : Cond.codeWith y bytes maxL ret hh ∈ ws) (hinit : ∀ a' U, s.WarmedH U.vm → (Cond.initialized y.cls).before a' U = true) :
    vx_Back l R p e below s sargs y len W9 (PreOf R mc ms Pc) (PostOf Qc mc ms free) (vx_Post XC mc ms free) := by
  intro m meth c A g ig mk a X hg hsize hdg hW hn hp
  have h1 : (headSpec ws rm).pre.before a A.U = true := atoms_intro fun w hw => hws w hw _ _ X.warmed
  have h2 : (Cond.codeWith y bytes maxL ret hh).before a A.U = true := hws _ hcode _ _ X.warmed
  have h3 : (Cond.initialized y.cls).before a A.U = true := hinit _ _ X.warmed
  have h4 : A.cells + (headSpec ws rm).room.cells ≤ R.cells := by rw [show (headSpec ws rm).room.cells = mc from hrc]; exact hp.1
  have h5 : A.slots + (headSpec ws rm).room.slots ≤ R.slots := by rw [show (headSpec ws rm).room.slots = ms from hrs]; exact hp.2.1
  have hPc : Pc a (A.U.calling g mk a) := hblind _ _ _ _ hp.2.2
  obtain ⟨U, Ls, c0, s0⟩ := A
  dsimp only [Pt.U, Pt.locs, Pt.cells, Pt.slots] at h1 h2 h3 h4 h5 X hn hPc ⊢
  obtain ⟨m9, methY, cY, hn9, hmY, hcY, -, hlY, -⟩ := Cond.codeWith_spec h2
  cases Option.some.inj (hn9.symm.trans hn)
  obtain ⟨kY, hkY, -⟩ := className_of_methodNamed hn
  have hinitY : kY.init = .initialized := Cond.initialized_spec (findClass_of_methodNamed hn) hkY h3
  have h : At U g.method c below := by rw [hg]; exact X.here
  have hlocals9 : W9 + (maxL + 11) + (headSpec ws rm).room.locals ≤ R.locals := hlocals
  have happ : (headSpec ws rm).appliesLoose y e.platform (U.calling g mk a) = true :=
    Spec.appliesLoose_calling (g := g) h hdg hn hkY hinitY
      (X.room_calling (g := g) (R' := (headSpec ws rm).room) hsize hmY hcY hframes (by rw [hlY]; omega) h4 h5) h1
  obtain ⟨mid, hmid⟩ := h.above
  have hfr : (U.setTop g).frames = (.java g :: mid) ++ below := by rw [State.frames_setTop' g h.top, hmid]; rfl
  obtain ⟨o, s₂, hsteps, -, hend, hq⟩ := Steps.callFree hM p X.admits X.cas X.clock (acts := []) hfr happ hPc trivial
  have hq' : vx_Q Qc XC mc ms free a (U.calling g mk a) o s₂ := hq
  rw [State.frames_setTop' g h.top] at hend
  obtain ⟨g₀, hg0⟩ := Option.isSome_iff_exists.mp h.top
  obtain ⟨r, hr⟩ := State.topJava?_eq_some.mp hg0
  have hr' : (({ U with heap := s₂.heap, slotsUsed := s₂.slotsUsed } : State).setVm s₂.vm).frames = .java g₀ :: r := hr
  rcases hq' with ⟨hqc, L, hfe, hL⟩ | ⟨q, rfl, E, ce, L, hx, hce, hcv, hcl, hW₂, hsm, hL⟩
  · obtain ⟨⟨v, rfl⟩, hW₂, e2, q2, q3, q4, q5, q6⟩ := id hfe
    have e3 : s₂ = ({ (U.calling g mk a).setFrames s₂.frames with heap := s₂.heap, slotsUsed := s₂.slotsUsed } : State).setVm s₂.vm := by
      have : s₂ = ({ s₂ with vm := (U.calling g mk a).vm } : State).setVm s₂.vm := rfl
      rw [e2] at this
      exact this
    obtain ⟨c₂, i₂, len₂, hc₂, hd₂, hf₂⟩ := hend
    have hW' : U.WarmedH s₂.vm := hW₂
    have hcc : c₂ = c := by
      have h1 : s₂.code? g.method = U.code? g.method := by
        rw [State.code?_eq, State.code?_eq, hW'.alike.method?]
      exact Option.some.inj (hc₂.symm.trans (h1.trans h.code))
    subst hcc
    have hlen : len₂ = len := by rw [hdg] at hd₂; cases hd₂; rfl
    subst hlen
    have hs₂ : s₂ = (({ U with heap := s₂.heap, slotsUsed := s₂.slotsUsed } : State).setVm s₂.vm).setTop { g with pc := g.pc + len₂, stack := v.toList ++ g.stack } := by
      refine e3.trans ?_
      rw [hf₂, State.calling_eq h.top, State.setFrames_setFrames, State.setTop_of_frames _ hr', hr]
      rfl
    have hsame : U.sameButNew ({ U with heap := s₂.heap, slotsUsed := s₂.slotsUsed } : State) L mc ms := by
      refine ⟨?_, q2, q3, q4, q5, q6⟩
      obtain ⟨t, ht, -⟩ := State.frames_cons hr
      show ({ U with heap := s₂.heap, slotsUsed := s₂.slotsUsed } : State) = { U.setFrames U.frames with heap := s₂.heap, slotsUsed := s₂.slotsUsed }
      rw [State.setFrames_self ht]
    subst hg
    refine Or.inl ⟨v, ⟨(({ U with heap := s₂.heap, slotsUsed := s₂.slotsUsed } : State).setVm s₂.vm), Ls ++ L, c0 + mc, s0 + ms⟩,
      ⟨X.admits, X.cas, X.clock, X.frames, X.room, X.hears, X.method, X.code, (X.here.setHeapUsed s₂.heap s₂.slotsUsed).setVm hW'.alike, X.tail, State.WarmedH.trans X.warmed hW', X.limits, X.bytes, X.same.trans (hsame.setVm s.vm)⟩,
      ⟨g, mk, s₂, L, rfl, rfl, hqc, rfl, hL, rfl, rfl⟩, ?_⟩
    show Steps p.tables e below _ ((({ U with heap := s₂.heap, slotsUsed := s₂.slotsUsed } : State).setVm s₂.vm).setTop { g with pc := g.pc + len₂, stack := v.toList ++ g.stack })
    rw [← hs₂]
    exact hsteps
  · obtain ⟨e2, q2, q3, q4, q5, q6⟩ := id hsm
    have e3 : s₂ = ({ (U.calling g mk a).setFrames s₂.frames with heap := s₂.heap, slotsUsed := s₂.slotsUsed } : State).setVm s₂.vm := by
      have : s₂ = ({ s₂ with vm := (U.calling g mk a).vm } : State).setVm s₂.vm := rfl
      rw [e2] at this
      exact this
    have hf₂ : s₂.frames = .throwing q :: .java g :: U.frames.tail := hend
    have hW' : U.WarmedH s₂.vm := hW₂
    have hs₂ : s₂ = ((({ U with heap := s₂.heap, slotsUsed := s₂.slotsUsed } : State).setVm s₂.vm).setTop g).pushFrame (.throwing q) := by
      refine e3.trans ?_
      rw [hf₂, State.calling_eq h.top, State.setFrames_setFrames, State.pushFrame, State.frames_setTop _ hr', State.setTop_of_frames _ hr', State.setFrames_setFrames, hr]
      rfl
    have hsame : U.sameButNew ({ U with heap := s₂.heap, slotsUsed := s₂.slotsUsed } : State) L mc ms := by
      refine ⟨?_, q2, q3, q4, q5, q6⟩
      obtain ⟨t, ht, -⟩ := State.frames_cons hr
      show ({ U with heap := s₂.heap, slotsUsed := s₂.slotsUsed } : State) = { U.setFrames U.frames with heap := s₂.heap, slotsUsed := s₂.slotsUsed }
      rw [State.setFrames_self ht]
    subst hg
    refine Or.inr ⟨q, ⟨(({ U with heap := s₂.heap, slotsUsed := s₂.slotsUsed } : State).setVm s₂.vm), Ls ++ L, c0 + mc, s0 + ms⟩,
      ⟨X.admits, X.cas, X.clock, X.frames, X.room, X.hears, X.method, X.code, (X.here.setHeapUsed s₂.heap s₂.slotsUsed).setVm hW'.alike, X.tail, State.WarmedH.trans X.warmed hW', X.limits, X.bytes, X.same.trans (hsame.setVm s.vm)⟩,
      ⟨g, mk, s₂, L, E, ce, rfl, rfl, hx, hce, hcv, hcl, rfl, hL, rfl, rfl⟩, ?_⟩
    show Steps p.tables e below _ (((({ U with heap := s₂.heap, slotsUsed := s₂.slotsUsed } : State).setVm s₂.vm).setTop g).pushFrame (.throwing q))
    rw [← hs₂]
    exact hsteps
end
variable {p : Program} {l : Launch} {e : Env} {R : Room} {s : State} {m : MethodId} {args : Array Value} {below : List Frame} {meth : Method} {c : Code} {T : State} {H : Heap} {locs : List Loc} {cells slots : Nat}
theorem vx_callVX (X : Stand p l e R s m args below meth c T locs cells slots) (hexec : p.tables.exec = Jvm.exec) {own C : String} {index : Nat} {y : MethodName} {bytes : ByteArray} {maxL : Nat} {ret : Option FieldType} {hh : List (Nat × Nat × Nat × Nat)}
    (hown : s.vm.findClass own = some m.cls) (hlink : (Cond.methodLink own index y).before args s = true) (hinst : (Cond.instanceMethod y).before args s = true) (hsel : (Cond.selects C y y).before args s = true)
    (hcode : (Cond.codeWith y bytes maxL ret hh).before args s = true) (hy : y.cls ≠ "java/lang/invoke/MethodHandle" ∧ y.cls ≠ "java/lang/invoke/VarHandle")
    {W9 : Nat} {Pre : Pt → Array Value → Prop} {Post : Pt → Array Value → Option Value → Pt → Prop} {PostX : Pt → Array Value → Addr → Pt → Prop} (hK : vx_Back l R p e below s args y 3 W9 Pre Post PostX)
    {b : Addr} {cellB : Cell} (hcell : T.heap[b]? = some cellB) (hobj : cellB.vm.isStatics = false) (hcls : s.vm.findClass C = some cellB.cls)
    {g : JFrame} (hg : g.method = m) (hsize : g.locals.size = c.maxLocals) {argsL rest : List Value} (hlen : ∀ sig, parseMethodDescriptor y.desc = some sig → argsL.length = sig.parameters.length)
    (hstack : g.stack = argsL.reverse ++ .ref b :: rest) (hW : 2 * g.monitorRoom + (rest.map fun v => v.category).sum ≤ W9) (hdg : decode c.code g.pc = .ok (.invokevirtual index, 3))
    (hpre : ∀ vm₁, s.WarmedH vm₁ → Pre ⟨T.setVm vm₁, locs, cells, slots⟩ (Value.ref b :: argsL).toArray) :
    (∃ (v : Option Value) (vm₁ : Vm) (B : Pt), s.WarmedH vm₁ ∧ Stand p l e R s m args below meth c B.U B.locs B.cells B.slots ∧ Post ⟨T.setVm vm₁, locs, cells, slots⟩ (Value.ref b :: argsL).toArray v B ∧
      ∀ target, Steps p.tables e below (B.U.setTop { g with pc := g.pc + 3, stack := v.toList ++ rest }) target → Steps p.tables e below (T.setTop g) target) ∨
    (∃ (q : Addr) (vm₁ : Vm) (B : Pt), s.WarmedH vm₁ ∧ Stand p l e R s m args below meth c B.U B.locs B.cells B.slots ∧ PostX ⟨T.setVm vm₁, locs, cells, slots⟩ (Value.ref b :: argsL).toArray q B ∧
      Steps p.tables e below (T.setTop g) ((B.U.setTop { g with stack := rest }).pushFrame (.throwing q))) := by
  obtain ⟨mk, methM, hnamed, hmethM, hstM, habM⟩ := Cond.instanceMethod_spec hinst
  obtain ⟨m8, methM', cM, hn8, hmethM', -, -, -, -, -, -, hsigM⟩ := Cond.codeWith_spec hcode
  cases Option.some.inj (hn8.symm.trans hnamed)
  cases hmethM.symm.trans hmethM'
  obtain ⟨c2, r2, m2, q1, q2, q3, q4, kP, hkP, hkPi⟩ := Cond.selects_spec hsel
  cases hcls.symm.trans q1
  cases (State.methodFound?_of_named hnamed hy).symm.trans q2
  cases hnamed.symm.trans q3
  have hselP : selectMethod e.platform s.vm cellB.cls mk = .method mk := by rw [Launch.admits_selectMethod X.admits]; exact q4
  obtain ⟨vm₁, X₁, hstep₁⟩ := X.invokevirtual hexec hown hlink hnamed hmethM hstM hkP hkPi hy (a := b) (cell := cellB) hcell
    (fun z h => by rw [h] at hobj; cases hobj) hselP hmethM habM hkP hkPi (g := g) hg (argsL := argsL) (rest := rest) (hlen _ hsigM) hstack hdg
  rcases hK m meth c ⟨T.setVm vm₁, locs, cells, slots⟩ { g with stack := rest } (.invokevirtual index) mk (Value.ref b :: argsL).toArray X₁ hg hsize hdg hW (X₁.named hnamed) (hpre vm₁ X₁.warmed) with ⟨v, B, X', hpost, hsteps⟩ | ⟨q, B, X', hpost, hsteps⟩
  · exact Or.inl ⟨v, vm₁, B, X₁.warmed, X', hpost, fun target h => hstep₁ _ fun acts => by rw [doInvoke_state]; exact hsteps.trans h⟩
  · exact Or.inr ⟨q, vm₁, B, X₁.warmed, X', hpost, hstep₁ _ fun acts => by rw [doInvoke_state]; exact hsteps⟩
theorem vx_callSX (X : Stand p l e R s m args below meth c T locs cells slots) (hexec : p.tables.exec = Jvm.exec) {own : String} {index : Nat} {y : MethodName} {bytes : ByteArray} {maxL : Nat} {ret : Option FieldType} {hh : List (Nat × Nat × Nat × Nat)}
    (hown : s.vm.findClass own = some m.cls) (hlink : (Cond.methodLink own index y).before args s = true) (hstat : (Cond.static y).before args s = true) (hinit : (Cond.initialized y.cls).before args s = true)
    (hcode : (Cond.codeWith y bytes maxL ret hh).before args s = true) (hy : y.cls ≠ "java/lang/invoke/MethodHandle" ∧ y.cls ≠ "java/lang/invoke/VarHandle")
    {W9 : Nat} {Pre : Pt → Array Value → Prop} {Post : Pt → Array Value → Option Value → Pt → Prop} {PostX : Pt → Array Value → Addr → Pt → Prop} (hK : vx_Back l R p e below s args y 3 W9 Pre Post PostX)
    {g : JFrame} (hg : g.method = m) (hsize : g.locals.size = c.maxLocals) {argsL rest : List Value} (hlen : ∀ sig, parseMethodDescriptor y.desc = some sig → argsL.length = sig.parameters.length)
    (hstack : g.stack = argsL.reverse ++ rest) (hW : 2 * g.monitorRoom + (rest.map fun v => v.category).sum ≤ W9) (hdg : decode c.code g.pc = .ok (.invokestatic index, 3))
    (hpre : ∀ vm₁, s.WarmedH vm₁ → Pre ⟨T.setVm vm₁, locs, cells, slots⟩ argsL.toArray) :
    (∃ (v : Option Value) (vm₁ : Vm) (B : Pt), s.WarmedH vm₁ ∧ Stand p l e R s m args below meth c B.U B.locs B.cells B.slots ∧ Post ⟨T.setVm vm₁, locs, cells, slots⟩ argsL.toArray v B ∧
      ∀ target, Steps p.tables e below (B.U.setTop { g with pc := g.pc + 3, stack := v.toList ++ rest }) target → Steps p.tables e below (T.setTop g) target) ∨
    (∃ (q : Addr) (vm₁ : Vm) (B : Pt), s.WarmedH vm₁ ∧ Stand p l e R s m args below meth c B.U B.locs B.cells B.slots ∧ PostX ⟨T.setVm vm₁, locs, cells, slots⟩ argsL.toArray q B ∧
      Steps p.tables e below (T.setTop g) ((B.U.setTop { g with stack := rest }).pushFrame (.throwing q))) := by
  obtain ⟨mk, methM, cM, hnamed, hmethM, -, -, -, -, -, -, hsigM⟩ := Cond.codeWith_spec hcode
  have hstatic : methM.isStatic = true := Cond.static_spec hnamed hmethM hstat
  obtain ⟨kP, hkP, -⟩ := className_of_methodNamed hnamed
  have hinitP : kP.init = .initialized := Cond.initialized_spec (findClass_of_methodNamed hnamed) hkP hinit
  obtain ⟨vm₁, X₁, hstep₁⟩ := X.invokestatic hexec hown hlink hnamed hmethM hstatic hkP hinitP hy (g := g) hg (argsL := argsL) (rest := rest) (hlen _ hsigM) hstack hdg
  rcases hK m meth c ⟨T.setVm vm₁, locs, cells, slots⟩ { g with stack := rest } (.invokestatic index) mk argsL.toArray X₁ hg hsize hdg hW (X₁.named hnamed) (hpre vm₁ X₁.warmed) with ⟨v, B, X', hpost, hsteps⟩ | ⟨q, B, X', hpost, hsteps⟩
  · exact Or.inl ⟨v, vm₁, B, X₁.warmed, X', hpost, fun target h => hstep₁ _ fun acts => by rw [doInvoke_state]; exact hsteps.trans h⟩
  · exact Or.inr ⟨q, vm₁, B, X₁.warmed, X', hpost, hstep₁ _ fun acts => by rw [doInvoke_state]; exact hsteps⟩
theorem vx_callVW (X : Stand p l e R s m args below meth c T locs cells slots) (hexec : p.tables.exec = Jvm.exec) {own C : String} {index : Nat} {y : MethodName} {bytes : ByteArray} {maxL : Nat} {ret : Option FieldType} {hh : List (Nat × Nat × Nat × Nat)}
    (hown : s.vm.findClass own = some m.cls) (hlink : (Cond.methodLink own index y).before args s = true) (hinst : (Cond.instanceMethod y).before args s = true) (hsel : (Cond.selects C y y).before args s = true)
    (hcode : (Cond.codeWith y bytes maxL ret hh).before args s = true) (hy : y.cls ≠ "java/lang/invoke/MethodHandle" ∧ y.cls ≠ "java/lang/invoke/VarHandle")
    {W9 : Nat} {Pre : Pt → Array Value → Prop} {Post : Pt → Array Value → Option Value → Pt → Prop} (hK : Back l R p e below s args y 3 W9 Pre Post)
    {b : Addr} {cellB : Cell} (hcell : T.heap[b]? = some cellB) (hobj : cellB.vm.isStatics = false) (hcls : s.vm.findClass C = some cellB.cls)
    {g : JFrame} (hg : g.method = m) (hsize : g.locals.size = c.maxLocals) {argsL rest : List Value} (hlen : ∀ sig, parseMethodDescriptor y.desc = some sig → argsL.length = sig.parameters.length)
    (hstack : g.stack = argsL.reverse ++ .ref b :: rest) (hW : 2 * g.monitorRoom + (rest.map fun v => v.category).sum ≤ W9) (hdg : decode c.code g.pc = .ok (.invokevirtual index, 3))
    (hpre : ∀ vm₁, s.WarmedH vm₁ → Pre ⟨T.setVm vm₁, locs, cells, slots⟩ (Value.ref b :: argsL).toArray) :
    ∃ (v : Option Value) (vm₁ : Vm) (B : Pt), s.WarmedH vm₁ ∧ Stand p l e R s m args below meth c B.U B.locs B.cells B.slots ∧ Post ⟨T.setVm vm₁, locs, cells, slots⟩ (Value.ref b :: argsL).toArray v B ∧
      ∀ target, Steps p.tables e below (B.U.setTop { g with pc := g.pc + 3, stack := v.toList ++ rest }) target → Steps p.tables e below (T.setTop g) target := by
  obtain ⟨mk, methM, hnamed, hmethM, hstM, habM⟩ := Cond.instanceMethod_spec hinst
  obtain ⟨m8, methM', cM, hn8, hmethM', -, -, -, -, -, -, hsigM⟩ := Cond.codeWith_spec hcode
  cases Option.some.inj (hn8.symm.trans hnamed)
  cases hmethM.symm.trans hmethM'
  obtain ⟨c2, r2, m2, q1, q2, q3, q4, kP, hkP, hkPi⟩ := Cond.selects_spec hsel
  cases hcls.symm.trans q1
  cases (State.methodFound?_of_named hnamed hy).symm.trans q2
  cases hnamed.symm.trans q3
  have hselP : selectMethod e.platform s.vm cellB.cls mk = .method mk := by rw [Launch.admits_selectMethod X.admits]; exact q4
  obtain ⟨vm₁, X₁, hstep₁⟩ := X.invokevirtual hexec hown hlink hnamed hmethM hstM hkP hkPi hy (a := b) (cell := cellB) hcell
    (fun z h => by rw [h] at hobj; cases hobj) hselP hmethM habM hkP hkPi (g := g) hg (argsL := argsL) (rest := rest) (hlen _ hsigM) hstack hdg
  obtain ⟨v, B, X', hpost, hsteps⟩ := hK m meth c ⟨T.setVm vm₁, locs, cells, slots⟩ { g with stack := rest } (.invokevirtual index) mk (Value.ref b :: argsL).toArray X₁ hg hsize hdg hW (X₁.named hnamed) (hpre vm₁ X₁.warmed)
  exact ⟨v, vm₁, B, X₁.warmed, X', hpost, fun target h => hstep₁ _ fun acts => by rw [doInvoke_state]; exact hsteps.trans h⟩
abbrev vx_CVW (R : Room) (s : State) (args : Array Value) (own C : String) (index : Nat) (y : MethodName) (bytes : ByteArray) (maxL : Nat) (ret : Option FieldType) (hh : List (Nat × Nat × Nat × Nat)) (ws : List Cond) (rm : Room) (mc ms n : Nat) : Prop :=
  (rm.cells = mc ∧ rm.slots = ms ∧ rm.frames + 1 ≤ R.frames ∧ 8 + (maxL + 11) + rm.locals ≤ R.locals ∧ (∀ w ∈ ws, ∀ (a' : Array Value) (U : State), s.WarmedH U.vm → w.before a' U = true) ∧ Cond.codeWith y bytes maxL ret hh ∈ ws) ∧
  (Cond.codeWith y bytes maxL ret hh).before args s = true ∧ (Cond.initialized y.cls).before args s = true ∧ (y.cls ≠ "java/lang/invoke/MethodHandle" ∧ y.cls ≠ "java/lang/invoke/VarHandle") ∧
  (∀ sig, parseMethodDescriptor y.desc = some sig → n = sig.parameters.length) ∧ (Cond.methodLink own index y).before args s = true ∧ (Cond.instanceMethod y).before args s = true ∧ (Cond.selects C y y).before args s = true
theorem vx_cwVW {own C : String} {index maxL mc ms : Nat} {y : MethodName} {bytes : ByteArray} {ret : Option FieldType} {hh : List (Nat × Nat × Nat × Nat)} {Ts ws ws' : List Cond} {rm : Room} (n : Nat) (ht : ∀ w ∈ Ts, w.before args s = true) (hT : GoodIn Ts (wsV own index C y ws)) (hw : ws = Cond.codeWith y bytes maxL ret hh :: ws') (hrc : rm.cells = mc) (hrs : rm.slots = ms)
    (hd : y.cls = C ∧ y.cls ≠ "java/lang/invoke/MethodHandle" ∧ y.cls ≠ "java/lang/invoke/VarHandle" ∧ (parseMethodDescriptor y.desc).map (fun d => d.parameters.length) = some n) (hR : rm.frames + 1 ≤ R.frames ∧ 8 + (maxL + 11) + rm.locals ≤ R.locals) :
    vx_CVW R s args own C index y bytes maxL ret hh ws rm mc ms n := by
  obtain ⟨hC, hd⟩ := hd
  subst hC
  have ok : ∀ w ∈ wsV own index y.cls y ws, w.before args s = true := fun w h => ht w (hT w h).1
  have hG : GoodIn Ts ws := fun w h => hT w (by unfold wsV; exact List.mem_append_right _ h)
  have hc : Cond.codeWith y bytes maxL ret hh ∈ ws := by rw [hw]; exact List.mem_cons_self
  refine ⟨⟨hrc, hrs, hR.1, hR.2, pay_in ht hG, hc⟩, ht _ (hG _ hc).1, ok _ (by simp [wsV]), ⟨hd.1, hd.2.1⟩, fun sig h => ?_, ok _ (by simp [wsV]), ok _ (by simp [wsV]), ok _ (by simp [wsV])⟩
  have h2 := hd.2.2
  rw [h] at h2
  exact (Option.some.inj h2).symm
theorem vx_runVW {y : MethodName} {bytes cc : ByteArray} {maxL nL mc ms n index : Nat} {ret : Option FieldType} {hh : List (Nat × Nat × Nat × Nat)} {ws : List Cond} {rm : Room} {Pc : Array Value → State → Prop} {Qc : Array Value → State → Outcome → State → Prop} {free : Addr → Prop} {Ts : List Cond} {own C : String} {b : Addr} {As rest : List Value} {g : JFrame}
    (S : CallFix p m c cc nL s args Ts own) (hM : Met l y ws rm Pc Qc mc ms free) (cw : vx_CVW R s args own C index y bytes maxL ret hh ws rm mc ms n) (hp : PreV s H C b Pc As)
    (hg : g.method = m) (hn : As.length = n) (hsize : g.locals.size = nL) (hstack : g.stack = As.reverse ++ .ref b :: rest) (hW : 2 * g.monitorRoom + (rest.map fun v => v.category).sum ≤ 8) (hdg : decode cc g.pc = .ok (.invokevirtual index, 3)) (hf : cells + mc ≤ R.cells ∧ slots + ms ≤ R.slots) :
    va_Run p l e R s m args below meth c H locs cells slots mc ms g rest (Qc (Value.ref b :: As).toArray) free := by
  obtain ⟨⟨hrc, hrs, hfr, hlo, hws, hcw⟩, hcode, hini, hy, hlen, hl, hin, hse⟩ := cw
  have hK : Back l R p e below s args y 3 8 (PreOf R mc ms Pc) (PostOf Qc mc ms free) := va_backW (hh := hh) (bytes := bytes) (maxL := maxL) (ret := ret) hM hp.1 hrc hrs hfr hlo hws hcw (fun a' U hW => word_at hW (Or.inl (by first | rfl | simp [Cond.onTables, Cond.keeps, Cond.steady])) hini)
  obtain ⟨hx, hb, hml, ho, -⟩ := S
  obtain ⟨-, ⟨cellB, hcB, hoB, hclB⟩, hPc⟩ := hp
  intro T hT X
  obtain ⟨v, vm₁, ⟨U', l2, c2, s2⟩, hW₁, X', ⟨g', mk, t, L, e1, e2, hq, h1, hL, h2, h3⟩, st⟩ := vx_callVW X hx (C := C) (hh := hh) (bytes := bytes) (maxL := maxL) (ret := ret) ho hl hin hse hcode hy hK (by rw [hT]; exact hcB) hoB hclB hg (hsize.trans hml.symm) (argsL := As) (rest := rest) (fun sig h => hn.trans (hlen sig h)) hstack hW (by rw [hb]; exact hdg)
    (fun vm₁ hW₁ => ⟨hf.1, hf.2, hPc (T.setVm vm₁) hT hW₁⟩)
  dsimp only [Pt.U, Pt.locs, Pt.cells, Pt.slots] at X' e1 e2 h1 h2 h3 st
  subst h1; subst h2; subst h3
  exact ⟨v, (T.setVm vm₁).calling g' mk (Value.ref b :: As).toArray, t, U', L, hT, X', hL, e1, e2, hq, st⟩
section
variable {y : MethodName} {bytes cc : ByteArray} {maxL nL mc ms n index : Nat} {ret : Option FieldType} {ws : List Cond} {rm : Room} {Pc : Array Value → State → Prop} {Qc : Array Value → State → Outcome → State → Prop} {XC : String → State → State → Prop} {free : Addr → Prop} {Ts : List Cond} {own C : String} {b : Addr} {As rest : List Value} {g : JFrame}
theorem vx_runVX {hh : List (Nat × Nat × Nat × Nat)} (S : CallFix p m c cc nL s args Ts own) (hM : vx_Met l y ws rm Pc Qc XC mc ms free) (cw : vx_CVW R s args own C index y bytes maxL ret hh ws rm mc ms n) (hp : PreV s H C b Pc As)
    (hg : g.method = m) (hn : As.length = n) (hsize : g.locals.size = nL) (hstack : g.stack = As.reverse ++ .ref b :: rest) (hW : 2 * g.monitorRoom + (rest.map fun v => v.category).sum ≤ 8) (hdg : decode cc g.pc = .ok (.invokevirtual index, 3)) (hf : cells + mc ≤ R.cells ∧ slots + ms ≤ R.slots) :
    vx_Run p l e R s m args below meth c H locs cells slots mc ms g rest (Qc (Value.ref b :: As).toArray) XC free := by
  obtain ⟨⟨hrc, hrs, hfr, hlo, hws, hcw⟩, hcode, hini, hy, hlen, hl, hin, hse⟩ := cw
  have hK : vx_Back l R p e below s args y 3 8 (PreOf R mc ms Pc) (PostOf Qc mc ms free) (vx_Post XC mc ms free) := vx_backW (hh := hh) (bytes := bytes) (maxL := maxL) (ret := ret) hM hp.1 hrc hrs hfr hlo hws hcw (fun a' U hW => word_at hW (Or.inl (by first | rfl | simp [Cond.onTables, Cond.keeps, Cond.steady])) hini)
  obtain ⟨hx, hb, hml, ho, -⟩ := S
  obtain ⟨-, ⟨cellB, hcB, hoB, hclB⟩, hPc⟩ := hp
  intro T hT X
  rcases vx_callVX X hx (C := C) (hh := hh) (bytes := bytes) (maxL := maxL) (ret := ret) ho hl hin hse hcode hy hK (by rw [hT]; exact hcB) hoB hclB hg (hsize.trans hml.symm) (argsL := As) (rest := rest) (fun sig h => hn.trans (hlen sig h)) hstack hW (by rw [hb]; exact hdg)
    (fun vm₁ hW₁ => ⟨hf.1, hf.2, hPc (T.setVm vm₁) hT hW₁⟩) with ⟨v, vm₁, ⟨U', l2, c2, s2⟩, hW₁, X', ⟨g', mk, t, L, e1, e2, hq, h1, hL, h2, h3⟩, st⟩ | ⟨q, vm₁, ⟨U', l2, c2, s2⟩, hW₁, X', ⟨g', mk, t, L, E, ce, e1, e2, hq, hce, hcv, hcl, h1, hL, h2, h3⟩, st⟩
  · dsimp only [Pt.U, Pt.locs, Pt.cells, Pt.slots] at X' e1 e2 h1 h2 h3 st
    subst h1; subst h2; subst h3
    exact Or.inl ⟨v, (T.setVm vm₁).calling g' mk (Value.ref b :: As).toArray, t, U', L, hT, X', hL, e1, e2, hq, st⟩
  · dsimp only [Pt.U, Pt.locs, Pt.cells, Pt.slots] at X' e1 e2 h1 h2 h3 st hcl
    subst h1; subst h2; subst h3
    exact Or.inr ⟨q, (T.setVm vm₁).calling g' mk (Value.ref b :: As).toArray, t, U', L, E, ce, hT, X', hL, e1, e2, hq, hce, hcv, vx_cls hW₁ hcl, st⟩
theorem vx_runSX {hh : List (Nat × Nat × Nat × Nat)} (S : CallFix p m c cc nL s args Ts own) (hM : vx_Met l y ws rm Pc Qc XC mc ms free) (cw : vx_CSW R s args own index y bytes maxL ret hh ws rm mc ms n) (hp : PreS s H Pc As)
    (hg : g.method = m) (hn : As.length = n) (hsize : g.locals.size = nL) (hstack : g.stack = As.reverse ++ rest) (hW : 2 * g.monitorRoom + (rest.map fun v => v.category).sum ≤ 8) (hdg : decode cc g.pc = .ok (.invokestatic index, 3)) (hf : cells + mc ≤ R.cells ∧ slots + ms ≤ R.slots) :
    vx_Run p l e R s m args below meth c H locs cells slots mc ms g rest (Qc As.toArray) XC free := by
  obtain ⟨⟨hrc, hrs, hfr, hlo, hws, hcw⟩, hcode, hini, hy, hlen, hl, hstt⟩ := cw
  have hK : vx_Back l R p e below s args y 3 8 (PreOf R mc ms Pc) (PostOf Qc mc ms free) (vx_Post XC mc ms free) := vx_backW (hh := hh) (bytes := bytes) (maxL := maxL) (ret := ret) hM hp.1 hrc hrs hfr hlo hws hcw (fun a' U hW => word_at hW (Or.inl (by first | rfl | simp [Cond.onTables, Cond.keeps, Cond.steady])) hini)
  obtain ⟨hx, hb, hml, ho, -⟩ := S
  intro T hT X
  rcases vx_callSX X hx (hh := hh) (bytes := bytes) (maxL := maxL) (ret := ret) ho hl hstt hini hcode hy hK hg (hsize.trans hml.symm) (argsL := As) (rest := rest) (fun sig h => hn.trans (hlen sig h)) hstack hW (by rw [hb]; exact hdg)
    (fun vm₁ hW₁ => ⟨hf.1, hf.2, hp.2 (T.setVm vm₁) hT hW₁⟩) with ⟨v, vm₁, ⟨U', l2, c2, s2⟩, hW₁, X', ⟨g', mk, t, L, e1, e2, hq, h1, hL, h2, h3⟩, st⟩ | ⟨q, vm₁, ⟨U', l2, c2, s2⟩, hW₁, X', ⟨g', mk, t, L, E, ce, e1, e2, hq, hce, hcv, hcl, h1, hL, h2, h3⟩, st⟩
  · dsimp only [Pt.U, Pt.locs, Pt.cells, Pt.slots] at X' e1 e2 h1 h2 h3 st
    subst h1; subst h2; subst h3
    exact Or.inl ⟨v, (T.setVm vm₁).calling g' mk As.toArray, t, U', L, hT, X', hL, e1, e2, hq, st⟩
  · dsimp only [Pt.U, Pt.locs, Pt.cells, Pt.slots] at X' e1 e2 h1 h2 h3 st hcl
    subst h1; subst h2; subst h3
    exact Or.inr ⟨q, (T.setVm vm₁).calling g' mk As.toArray, t, U', L, E, ce, hT, X', hL, e1, e2, hq, hce, hcv, vx_cls hW₁ hcl, st⟩
end
end VXH
theorem vx_ofWH {l : Launch} {y : MethodName} {ws ws' : List Cond} {rm : Room} {Pc : Array Value → State → Prop} {Qc : Array Value → State → Outcome → State → Prop} {XC : String → State → State → Prop} {mc ms : Nat} {free : Addr → Prop} {cc : ByteArray} {maxL : Nat} {ret : Option FieldType} {hh : List (Nat × Nat × Nat × Nat)}
    (hy : plainName y.cls = true) (hw : ws = Cond.codeWith y cc maxL ret hh :: ws')
    (body : ∀ p e s m args below meth c s₁, BodyLoose p l y (headSpec ws rm) cc maxL ret e s m args below meth c s₁ → c.maxLocals = maxL → Pc args s →
      W p l e (headSpec ws rm).room s m args below meth c s.heap [] 0 0 (vx_MQ below Qc XC args s mc ms free) (entryFrame m args maxL)) : vx_Met l y ws rm Pc Qc XC mc ms free := by
  refine MetFree.of_bodyS (code := cc) (maxLocals := maxL) (ret := ret) hy ?_ ?_
  · intro args s m h hn
    obtain ⟨m9, meth, c, hn9, h1, h2, h3, h4, -, h5, h6, -⟩ := Cond.codeWith_spec (atoms_spec (ws := ws) h _ (by rw [hw]; exact List.mem_cons_self))
    cases hn.symm.trans hn9
    exact ⟨meth, c, h1, h2, h3, h4, h5, h6⟩
  · intro p e s m args below meth c s₁ B hml hP _
    have hh0 : s₁.heap = s.heap := by rw [B.state]; rfl
    obtain ⟨t, a1, o, b1, b2, b3⟩ := body p e s m args below meth c s₁ B hml hP s₁ hh0 (Stand.of_body B)
    exact ⟨t, o, a1, b1, b2, b3⟩
/-! ===== END ===== -/

/-! ===== BEGIN printed: names, fields, word lists, decode rows ===== -/
def RX0 : String := "PeerOverlay$History"
def TX0 : u_T := fun k => match k with
  | 0 => ("PeerOverlay$History", "before", "[LPeerOverlay$Situation;", true)
  | 1 => ("PeerOverlay$History", "next", "I", false)
  | _ => ("PeerOverlay$History", "count", "I", false)
def tyX0 : Nat → FieldType := fun k => match k with
  | 0 => .array (.object "PeerOverlay$Situation")
  | 1 => .int
  | _ => .int
abbrev wsX00 : List Cond := u_ws RX0 TX0 3
theorem nmX0 : ∀ a, a < 3 → ∀ b, b < 3 → a ≠ b → (TX0 a).2.1 ≠ (TX0 b).2.1 := by decide +kernel
theorem tyX0_ok : ∀ k, k < 3 → parseFieldDescriptor (TX0 k).2.2.1 = some (tyX0 k) := by decide +kernel
abbrev cX0_init : ByteArray := prog_2_method_1_code
def yX0_init : MethodName := ⟨RX0, "<init>", "()V"⟩
abbrev cX0_keep : ByteArray := prog_2_method_2_code
def yX0_keep : MethodName := ⟨RX0, "keep", "(LPeerOverlay$Situation;)V"⟩
abbrev cX0_takeBack : ByteArray := prog_2_method_3_code
def yX0_takeBack : MethodName := ⟨RX0, "takeBack", "(LPeerOverlay$Situation;)I"⟩
abbrev cX0_forget : ByteArray := prog_2_method_4_code
def yX0_forget : MethodName := ⟨RX0, "forget", "()V"⟩
def RX1 : String := "PeerOverlay$Plan"
def TX1 : u_T := fun k => match k with
  | 0 => ("PeerOverlay$Plan", "peers", "I", false)
  | 1 => ("PeerOverlay$Plan", "capacities", "[I", true)
  | 2 => ("PeerOverlay$Plan", "zones", "[I", true)
  | 3 => ("PeerOverlay$Plan", "delays", "[I", true)
  | 4 => ("PeerOverlay$Plan", "known", "[I", true)
  | 5 => ("PeerOverlay$Plan", "score", "LPeerOverlay$Score;", true)
  | 6 => ("PeerOverlay$Plan", "period", "I", false)
  | 7 => ("PeerOverlay$Plan", "need", "I", false)
  | _ => ("PeerOverlay$Plan", "many", "I", false)
def tyX1 : Nat → FieldType := fun k => match k with
  | 0 => .int
  | 1 => .array .int
  | 2 => .array .int
  | 3 => .array .int
  | 4 => .array .int
  | 5 => .object "PeerOverlay$Score"
  | 6 => .int
  | 7 => .int
  | _ => .int
abbrev wsX10 : List Cond := u_ws RX1 TX1 9
theorem nmX1 : ∀ a, a < 9 → ∀ b, b < 9 → a ≠ b → (TX1 a).2.1 ≠ (TX1 b).2.1 := by decide +kernel
theorem tyX1_ok : ∀ k, k < 9 → parseFieldDescriptor (TX1 k).2.2.1 = some (tyX1 k) := by decide +kernel
abbrev cX1_init : ByteArray := prog_3_method_1_code
def yX1_init : MethodName := ⟨RX1, "<init>", "()V"⟩
abbrev cX1_clear : ByteArray := prog_3_method_2_code
def yX1_clear : MethodName := ⟨RX1, "clear", "()V"⟩
abbrev cX1_addPeer : ByteArray := prog_3_method_3_code
def yX1_addPeer : MethodName := ⟨RX1, "addPeer", "(II)V"⟩
abbrev cX1_addLink : ByteArray := prog_3_method_4_code
def yX1_addLink : MethodName := ⟨RX1, "addLink", "(III)V"⟩
abbrev cX1_addAcquaintance : ByteArray := prog_3_method_5_code
def yX1_addAcquaintance : MethodName := ⟨RX1, "addAcquaintance", "(II)V"⟩
abbrev cX1_delayBetween : ByteArray := prog_3_method_6_code
def yX1_delayBetween : MethodName := ⟨RX1, "delayBetween", "(II)I"⟩
abbrev cX1_delayAlong : ByteArray := prog_3_method_7_code
def yX1_delayAlong : MethodName := ⟨RX1, "delayAlong", "(LPeerOverlay$Session;)I"⟩
abbrev cX1_zonesCrossed : ByteArray := prog_3_method_8_code
def yX1_zonesCrossed : MethodName := ⟨RX1, "zonesCrossed", "(III)I"⟩
def RX2 : String := "PeerOverlay$Reader"
def TX2 : u_T := fun k => match k with
  | 0 => ("PeerOverlay$Reader", "text", "[B", true)
  | 1 => ("PeerOverlay$Reader", "length", "I", true)
  | 2 => ("PeerOverlay$Reader", "plan", "LPeerOverlay$Plan;", true)
  | 3 => ("PeerOverlay$Reader", "next", "I", false)
  | 4 => ("PeerOverlay$Reader", "start", "I", false)
  | 5 => ("PeerOverlay$Reader", "kind", "I", false)
  | 6 => ("PeerOverlay$Reader", "number", "I", false)
  | 7 => ("PeerOverlay$Reader", "seen", "I", false)
  | 8 => ("PeerOverlay$Reader", "error", "I", false)
  | _ => ("PeerOverlay$Reader", "errorAt", "I", false)
def tyX2 : Nat → FieldType := fun k => match k with
  | 0 => .array .byte
  | 1 => .int
  | 2 => .object "PeerOverlay$Plan"
  | 3 => .int
  | 4 => .int
  | 5 => .int
  | 6 => .int
  | 7 => .int
  | 8 => .int
  | _ => .int
abbrev wsX20 : List Cond := u_ws RX2 TX2 10
theorem nmX2 : ∀ a, a < 10 → ∀ b, b < 10 → a ≠ b → (TX2 a).2.1 ≠ (TX2 b).2.1 := by decide +kernel
theorem tyX2_ok : ∀ k, k < 10 → parseFieldDescriptor (TX2 k).2.2.1 = some (tyX2 k) := by decide +kernel
abbrev cX2_init : ByteArray := prog_4_method_1_code
def yX2_init : MethodName := ⟨RX2, "<init>", "([BILPeerOverlay$Plan;)V"⟩
abbrev cX2_readOverlay : ByteArray := prog_4_method_2_code
def yX2_readOverlay : MethodName := ⟨RX2, "readOverlay", "()I"⟩
abbrev cX2_readStatement : ByteArray := prog_4_method_3_code
def yX2_readStatement : MethodName := ⟨RX2, "readStatement", "()V"⟩
abbrev cX2_readPeer : ByteArray := prog_4_method_4_code
def yX2_readPeer : MethodName := ⟨RX2, "readPeer", "()V"⟩
abbrev cX2_readLink : ByteArray := prog_4_method_5_code
def yX2_readLink : MethodName := ⟨RX2, "readLink", "()V"⟩
abbrev cX2_readKnows : ByteArray := prog_4_method_6_code
def yX2_readKnows : MethodName := ⟨RX2, "readKnows", "()V"⟩
abbrev cX2_beginsOnly : ByteArray := prog_4_method_7_code
def yX2_beginsOnly : MethodName := ⟨RX2, "beginsOnly", "(I)Z"⟩
abbrev cX2_readNumber : ByteArray := prog_4_method_8_code
def yX2_readNumber : MethodName := ⟨RX2, "readNumber", "(III)I"⟩
abbrev cX2_readSum : ByteArray := prog_4_method_9_code
def yX2_readSum : MethodName := ⟨RX2, "readSum", "(I)V"⟩
abbrev cX2_readTerm : ByteArray := prog_4_method_10_code
def yX2_readTerm : MethodName := ⟨RX2, "readTerm", "(I)V"⟩
abbrev cX2_readFactor : ByteArray := prog_4_method_11_code
def yX2_readFactor : MethodName := ⟨RX2, "readFactor", "(I)V"⟩
abbrev cX2_readInput : ByteArray := prog_4_method_12_code
def yX2_readInput : MethodName := ⟨RX2, "readInput", "()V"⟩
abbrev cX2_require : ByteArray := prog_4_method_13_code
def yX2_require : MethodName := ⟨RX2, "require", "(I)V"⟩
abbrev cX2_wordIs : ByteArray := prog_4_method_14_code
def yX2_wordIs : MethodName := ⟨RX2, "wordIs", "(Ljava/lang/String;)Z"⟩
abbrev cX2_fail : ByteArray := prog_4_method_15_code
def yX2_fail : MethodName := ⟨RX2, "fail", "(I)V"⟩
abbrev cX2_advance : ByteArray := prog_4_method_16_code
def yX2_advance : MethodName := ⟨RX2, "advance", "()V"⟩
abbrev cX2_takeWord : ByteArray := prog_4_method_17_code
def yX2_takeWord : MethodName := ⟨RX2, "takeWord", "()V"⟩
abbrev cX2_takeNumber : ByteArray := prog_4_method_18_code
def yX2_takeNumber : MethodName := ⟨RX2, "takeNumber", "()V"⟩
abbrev cX2_takeSign : ByteArray := prog_4_method_19_code
def yX2_takeSign : MethodName := ⟨RX2, "takeSign", "()V"⟩
def RX3 : String := "PeerOverlay$Score"
def TX3 : u_T := fun k => match k with
  | 0 => ("PeerOverlay$Score", "items", "[I", true)
  | 1 => ("PeerOverlay$Score", "count", "I", false)
  | 2 => ("PeerOverlay$Score", "values", "[I", true)
  | _ => ("PeerOverlay$Score", "held", "I", false)
def tyX3 : Nat → FieldType := fun k => match k with
  | 0 => .array .int
  | 1 => .int
  | 2 => .array .int
  | _ => .int
abbrev wsX30 : List Cond := u_ws RX3 TX3 4
theorem nmX3 : ∀ a, a < 4 → ∀ b, b < 4 → a ≠ b → (TX3 a).2.1 ≠ (TX3 b).2.1 := by decide +kernel
theorem tyX3_ok : ∀ k, k < 4 → parseFieldDescriptor (TX3 k).2.2.1 = some (tyX3 k) := by decide +kernel
abbrev cX3_init : ByteArray := prog_5_method_1_code
def yX3_init : MethodName := ⟨RX3, "<init>", "()V"⟩
abbrev cX3_clear : ByteArray := prog_5_method_2_code
def yX3_clear : MethodName := ⟨RX3, "clear", "()V"⟩
abbrev cX3_useDefault : ByteArray := prog_5_method_3_code
def yX3_useDefault : MethodName := ⟨RX3, "useDefault", "()V"⟩
abbrev cX3_put : ByteArray := prog_5_method_4_code
def yX3_put : MethodName := ⟨RX3, "put", "(I)V"⟩
abbrev cX3_worth : ByteArray := prog_5_method_5_code
def yX3_worth : MethodName := ⟨RX3, "worth", "(IIIII)I"⟩
abbrev cX3_hold : ByteArray := prog_5_method_6_code
def yX3_hold : MethodName := ⟨RX3, "hold", "(I)V"⟩
abbrev cX3_combine : ByteArray := prog_5_method_7_code
def yX3_combine : MethodName := ⟨RX3, "combine", "(I)V"⟩
def RX4 : String := "PeerOverlay$Session"
def TX4 : u_T := fun k => match k with
  | 0 => ("PeerOverlay$Session", "open", "Z", false)
  | 1 => ("PeerOverlay$Session", "sender", "I", false)
  | 2 => ("PeerOverlay$Session", "receiver", "I", false)
  | 3 => ("PeerOverlay$Session", "opened", "I", false)
  | 4 => ("PeerOverlay$Session", "path", "I", false)
  | 5 => ("PeerOverlay$Session", "oldPath", "I", false)
  | 6 => ("PeerOverlay$Session", "successes", "I", false)
  | 7 => ("PeerOverlay$Session", "sent", "I", false)
  | 8 => ("PeerOverlay$Session", "delivered", "I", false)
  | 9 => ("PeerOverlay$Session", "key", "I", false)
  | 10 => ("PeerOverlay$Session", "sentWithKey", "I", false)
  | 11 => ("PeerOverlay$Session", "lastValue", "I", false)
  | 12 => ("PeerOverlay$Session", "digest", "I", false)
  | 13 => ("PeerOverlay$Session", "values", "[I", true)
  | 14 => ("PeerOverlay$Session", "keys", "[I", true)
  | 15 => ("PeerOverlay$Session", "routes", "[I", true)
  | _ => ("PeerOverlay$Session", "arrivals", "[I", true)
def tyX4 : Nat → FieldType := fun k => match k with
  | 0 => .boolean
  | 1 => .int
  | 2 => .int
  | 3 => .int
  | 4 => .int
  | 5 => .int
  | 6 => .int
  | 7 => .int
  | 8 => .int
  | 9 => .int
  | 10 => .int
  | 11 => .int
  | 12 => .int
  | 13 => .array .int
  | 14 => .array .int
  | 15 => .array .int
  | _ => .array .int
abbrev wsX40 : List Cond := u_ws RX4 TX4 17
theorem nmX4 : ∀ a, a < 17 → ∀ b, b < 17 → a ≠ b → (TX4 a).2.1 ≠ (TX4 b).2.1 := by decide +kernel
theorem tyX4_ok : ∀ k, k < 17 → parseFieldDescriptor (TX4 k).2.2.1 = some (tyX4 k) := by decide +kernel
abbrev cX4_init : ByteArray := prog_6_method_1_code
def yX4_init : MethodName := ⟨RX4, "<init>", "()V"⟩
abbrev cX4_begin : ByteArray := prog_6_method_2_code
def yX4_begin : MethodName := ⟨RX4, "begin", "(IIII)V"⟩
abbrev cX4_copyFrom : ByteArray := prog_6_method_3_code
def yX4_copyFrom : MethodName := ⟨RX4, "copyFrom", "(LPeerOverlay$Session;)V"⟩
abbrev cX4_placeOf : ByteArray := prog_6_method_4_code
def yX4_placeOf : MethodName := ⟨RX4, "placeOf", "(I)I"⟩
abbrev cX4_addMessage : ByteArray := prog_6_method_5_code
def yX4_addMessage : MethodName := ⟨RX4, "addMessage", "(III)I"⟩
abbrev cX4_takeNextKey : ByteArray := prog_6_method_6_code
def yX4_takeNextKey : MethodName := ⟨RX4, "takeNextKey", "()V"⟩
abbrev cX4_changePath : ByteArray := prog_6_method_7_code
def yX4_changePath : MethodName := ⟨RX4, "changePath", "(I)V"⟩
abbrev cX4_startWaiting : ByteArray := prog_6_method_8_code
def yX4_startWaiting : MethodName := ⟨RX4, "startWaiting", "(I)V"⟩
abbrev cX4_takeArrivals : ByteArray := prog_6_method_9_code
def yX4_takeArrivals : MethodName := ⟨RX4, "takeArrivals", "(I)I"⟩
abbrev cX4_dropEmptyOldPath : ByteArray := prog_6_method_10_code
def yX4_dropEmptyOldPath : MethodName := ⟨RX4, "dropEmptyOldPath", "()V"⟩
abbrev cX4_moveMessages : ByteArray := prog_6_method_11_code
def yX4_moveMessages : MethodName := ⟨RX4, "moveMessages", "(III)I"⟩
abbrev cX4_routeUses : ByteArray := prog_6_method_12_code
def yX4_routeUses : MethodName := ⟨RX4, "routeUses", "(III)Z"⟩
abbrev cX4_samePair : ByteArray := prog_6_method_13_code
def yX4_samePair : MethodName := ⟨RX4, "samePair", "(IIII)Z"⟩
abbrev cX4_leadsOver : ByteArray := prog_6_method_14_code
def yX4_leadsOver : MethodName := ⟨RX4, "leadsOver", "(I)Z"⟩
abbrev cX4_countUndelivered : ByteArray := prog_6_method_15_code
def yX4_countUndelivered : MethodName := ⟨RX4, "countUndelivered", "(I)I"⟩
abbrev cX4_stateOf : ByteArray := prog_6_method_16_code
def yX4_stateOf : MethodName := ⟨RX4, "stateOf", "(I)I"⟩
abbrev cX4_firstNeededKey : ByteArray := prog_6_method_17_code
def yX4_firstNeededKey : MethodName := ⟨RX4, "firstNeededKey", "()I"⟩
def RX5 : String := "PeerOverlay$Situation"
def TX5 : u_T := fun k => match k with
  | 0 => ("PeerOverlay$Situation", "tick", "I", false)
  | 1 => ("PeerOverlay$Situation", "links", "[I", true)
  | 2 => ("PeerOverlay$Situation", "known", "[I", true)
  | _ => ("PeerOverlay$Situation", "sessions", "[LPeerOverlay$Session;", true)
def tyX5 : Nat → FieldType := fun k => match k with
  | 0 => .int
  | 1 => .array .int
  | 2 => .array .int
  | _ => .array (.object "PeerOverlay$Session")
abbrev wsX50 : List Cond := u_ws RX5 TX5 4
theorem nmX5 : ∀ a, a < 4 → ∀ b, b < 4 → a ≠ b → (TX5 a).2.1 ≠ (TX5 b).2.1 := by decide +kernel
theorem tyX5_ok : ∀ k, k < 4 → parseFieldDescriptor (TX5 k).2.2.1 = some (tyX5 k) := by decide +kernel
abbrev cX5_init : ByteArray := prog_7_method_1_code
def yX5_init : MethodName := ⟨RX5, "<init>", "()V"⟩
abbrev cX5_copyFrom : ByteArray := prog_7_method_2_code
def yX5_copyFrom : MethodName := ⟨RX5, "copyFrom", "(LPeerOverlay$Situation;)V"⟩
abbrev cX5_beginWith : ByteArray := prog_7_method_3_code
def yX5_beginWith : MethodName := ⟨RX5, "beginWith", "(LPeerOverlay$Plan;)V"⟩
abbrev cX5_acquainted : ByteArray := prog_7_method_4_code
def yX5_acquainted : MethodName := ⟨RX5, "acquainted", "(II)Z"⟩
abbrev cX5_acquaint : ByteArray := prog_7_method_5_code
def yX5_acquaint : MethodName := ⟨RX5, "acquaint", "(II)V"⟩
abbrev cX5_linkIsUp : ByteArray := prog_7_method_6_code
def yX5_linkIsUp : MethodName := ⟨RX5, "linkIsUp", "(II)Z"⟩
abbrev cX5_turnLink : ByteArray := prog_7_method_7_code
def yX5_turnLink : MethodName := ⟨RX5, "turnLink", "(II)V"⟩
abbrev cX5_stepsBetween : ByteArray := prog_7_method_8_code
def yX5_stepsBetween : MethodName := ⟨RX5, "stepsBetween", "(II)I"⟩
abbrev cX5_findSession : ByteArray := prog_7_method_9_code
def yX5_findSession : MethodName := ⟨RX5, "findSession", "(II)I"⟩
abbrev cX5_freeSession : ByteArray := prog_7_method_10_code
def yX5_freeSession : MethodName := ⟨RX5, "freeSession", "()I"⟩
abbrev cX5_loadOf : ByteArray := prog_7_method_11_code
def yX5_loadOf : MethodName := ⟨RX5, "loadOf", "(I)I"⟩
abbrev cX5_canRelay : ByteArray := prog_7_method_12_code
def yX5_canRelay : MethodName := ⟨RX5, "canRelay", "(III)Z"⟩
abbrev cX5_scoreOf : ByteArray := prog_7_method_13_code
def yX5_scoreOf : MethodName := ⟨RX5, "scoreOf", "(LPeerOverlay$Plan;III)I"⟩
abbrev cX5_chooseRelay : ByteArray := prog_7_method_14_code
def yX5_chooseRelay : MethodName := ⟨RX5, "chooseRelay", "(LPeerOverlay$Plan;II)I"⟩
abbrev cX5_passTick : ByteArray := prog_7_method_15_code
def yX5_passTick : MethodName := ⟨RX5, "passTick", "(LPeerOverlay$Plan;)I"⟩
abbrev cX5_probeIfDue : ByteArray := prog_7_method_16_code
def yX5_probeIfDue : MethodName := ⟨RX5, "probeIfDue", "(LPeerOverlay$Plan;LPeerOverlay$Session;)V"⟩
abbrev cX5_upgrade : ByteArray := prog_7_method_17_code
def yX5_upgrade : MethodName := ⟨RX5, "upgrade", "(LPeerOverlay$Plan;LPeerOverlay$Session;)V"⟩
abbrev cX5_seekRelay : ByteArray := prog_7_method_18_code
def yX5_seekRelay : MethodName := ⟨RX5, "seekRelay", "(LPeerOverlay$Plan;LPeerOverlay$Session;)V"⟩
abbrev cX5_leaveLink : ByteArray := prog_7_method_19_code
def yX5_leaveLink : MethodName := ⟨RX5, "leaveLink", "(LPeerOverlay$Plan;II)I"⟩
abbrev cX5_leavePaths : ByteArray := prog_7_method_20_code
def yX5_leavePaths : MethodName := ⟨RX5, "leavePaths", "(LPeerOverlay$Plan;LPeerOverlay$Session;II)V"⟩
def RX6 : String := "PeerOverlay"
def TX6 : u_T := fun k => match k with
  | 0 => ("PeerOverlay", "buffer", "[B", true)
  | 1 => ("PeerOverlay", "buffered", "I", false)
  | 2 => ("PeerOverlay", "errorAt", "I", false)
  | 3 => ("PeerOverlay", "plan", "LPeerOverlay$Plan;", false)
  | 4 => ("PeerOverlay", "draft", "LPeerOverlay$Plan;", false)
  | 5 => ("PeerOverlay", "now", "LPeerOverlay$Situation;", true)
  | 6 => ("PeerOverlay", "forecast", "LPeerOverlay$Situation;", true)
  | 7 => ("PeerOverlay", "history", "LPeerOverlay$History;", true)
  | 8 => ("PeerOverlay", "snapshots", "[LPeerOverlay$Situation;", true)
  | _ => ("PeerOverlay", "saved", "[Z", true)
def tyX6 : Nat → FieldType := fun k => match k with
  | 0 => .array .byte
  | 1 => .int
  | 2 => .int
  | 3 => .object "PeerOverlay$Plan"
  | 4 => .object "PeerOverlay$Plan"
  | 5 => .object "PeerOverlay$Situation"
  | 6 => .object "PeerOverlay$Situation"
  | 7 => .object "PeerOverlay$History"
  | 8 => .array (.object "PeerOverlay$Situation")
  | _ => .array .boolean
abbrev wsX60 : List Cond := u_ws RX6 TX6 10
theorem nmX6 : ∀ a, a < 10 → ∀ b, b < 10 → a ≠ b → (TX6 a).2.1 ≠ (TX6 b).2.1 := by decide +kernel
theorem tyX6_ok : ∀ k, k < 10 → parseFieldDescriptor (TX6 k).2.2.1 = some (tyX6 k) := by decide +kernel
abbrev cX6_init : ByteArray := prog_1_method_1_code
def yX6_init : MethodName := ⟨RX6, "<init>", "()V"⟩
abbrev cX6_append : ByteArray := prog_1_method_2_code
def yX6_append : MethodName := ⟨RX6, "append", "(IIIII)I"⟩
abbrev cX6_parse : ByteArray := prog_1_method_3_code
def yX6_parse : MethodName := ⟨RX6, "parse", "(I)I"⟩
abbrev cX6_errorPosition : ByteArray := prog_1_method_4_code
def yX6_errorPosition : MethodName := ⟨RX6, "errorPosition", "()I"⟩
abbrev cX6_peerCount : ByteArray := prog_1_method_5_code
def yX6_peerCount : MethodName := ⟨RX6, "peerCount", "()I"⟩
abbrev cX6_tick : ByteArray := prog_1_method_6_code
def yX6_tick : MethodName := ⟨RX6, "tick", "()I"⟩
abbrev cX6_knows : ByteArray := prog_1_method_7_code
def yX6_knows : MethodName := ⟨RX6, "knows", "(II)Z"⟩
abbrev cX6_delay : ByteArray := prog_1_method_8_code
def yX6_delay : MethodName := ⟨RX6, "delay", "(II)I"⟩
abbrev cX6_introductionsNeeded : ByteArray := prog_1_method_9_code
def yX6_introductionsNeeded : MethodName := ⟨RX6, "introductionsNeeded", "(II)I"⟩
abbrev cX6_introducer : ByteArray := prog_1_method_10_code
def yX6_introducer : MethodName := ⟨RX6, "introducer", "(II)I"⟩
abbrev cX6_load : ByteArray := prog_1_method_11_code
def yX6_load : MethodName := ⟨RX6, "load", "(I)I"⟩
abbrev cX6_bestRelay : ByteArray := prog_1_method_12_code
def yX6_bestRelay : MethodName := ⟨RX6, "bestRelay", "(II)I"⟩
abbrev cX6_relayScore : ByteArray := prog_1_method_13_code
def yX6_relayScore : MethodName := ⟨RX6, "relayScore", "(III)I"⟩
abbrev cX6_sessions : ByteArray := prog_1_method_14_code
def yX6_sessions : MethodName := ⟨RX6, "sessions", "()I"⟩
abbrev cX6_session : ByteArray := prog_1_method_15_code
def yX6_session : MethodName := ⟨RX6, "session", "(II)I"⟩
abbrev cX6_path : ByteArray := prog_1_method_16_code
def yX6_path : MethodName := ⟨RX6, "path", "(I)I"⟩
abbrev cX6_oldPath : ByteArray := prog_1_method_17_code
def yX6_oldPath : MethodName := ⟨RX6, "oldPath", "(I)I"⟩
abbrev cX6_successes : ByteArray := prog_1_method_18_code
def yX6_successes : MethodName := ⟨RX6, "successes", "(I)I"⟩
abbrev cX6_messages : ByteArray := prog_1_method_19_code
def yX6_messages : MethodName := ⟨RX6, "messages", "(II)I"⟩
abbrev cX6_lastValue : ByteArray := prog_1_method_20_code
def yX6_lastValue : MethodName := ⟨RX6, "lastValue", "(I)I"⟩
abbrev cX6_digest : ByteArray := prog_1_method_21_code
def yX6_digest : MethodName := ⟨RX6, "digest", "(I)I"⟩
abbrev cX6_key : ByteArray := prog_1_method_22_code
def yX6_key : MethodName := ⟨RX6, "key", "(I)I"⟩
abbrev cX6_oldestKey : ByteArray := prog_1_method_23_code
def yX6_oldestKey : MethodName := ⟨RX6, "oldestKey", "(I)I"⟩
abbrev cX6_keyStart : ByteArray := prog_1_method_24_code
def yX6_keyStart : MethodName := ⟨RX6, "keyStart", "(I)I"⟩
abbrev cX6_ticksToDeliver : ByteArray := prog_1_method_25_code
def yX6_ticksToDeliver : MethodName := ⟨RX6, "ticksToDeliver", "(I)I"⟩
abbrev cX6_ticksToDirect : ByteArray := prog_1_method_26_code
def yX6_ticksToDirect : MethodName := ⟨RX6, "ticksToDirect", "(I)I"⟩
abbrev cX6_run : ByteArray := prog_1_method_27_code
def yX6_run : MethodName := ⟨RX6, "run", "(I)I"⟩
abbrev cX6_introduce : ByteArray := prog_1_method_28_code
def yX6_introduce : MethodName := ⟨RX6, "introduce", "(III)I"⟩
abbrev cX6_open : ByteArray := prog_1_method_29_code
def yX6_open : MethodName := ⟨RX6, "open", "(II)I"⟩
abbrev cX6_send : ByteArray := prog_1_method_30_code
def yX6_send : MethodName := ⟨RX6, "send", "(II)I"⟩
abbrev cX6_setLink : ByteArray := prog_1_method_31_code
def yX6_setLink : MethodName := ⟨RX6, "setLink", "(IIZ)I"⟩
abbrev cX6_close : ByteArray := prog_1_method_32_code
def yX6_close : MethodName := ⟨RX6, "close", "(I)I"⟩
abbrev cX6_undo : ByteArray := prog_1_method_33_code
def yX6_undo : MethodName := ⟨RX6, "undo", "()I"⟩
abbrev cX6_saveSnapshot : ByteArray := prog_1_method_34_code
def yX6_saveSnapshot : MethodName := ⟨RX6, "saveSnapshot", "(I)Z"⟩
abbrev cX6_restoreSnapshot : ByteArray := prog_1_method_35_code
def yX6_restoreSnapshot : MethodName := ⟨RX6, "restoreSnapshot", "(I)I"⟩
abbrev cX6_putFourBytes : ByteArray := prog_1_method_36_code
def yX6_putFourBytes : MethodName := ⟨RX6, "putFourBytes", "(I)V"⟩
abbrev cX6_useDraft : ByteArray := prog_1_method_37_code
def yX6_useDraft : MethodName := ⟨RX6, "useDraft", "()V"⟩
abbrev cX6_checkPeer : ByteArray := prog_1_method_38_code
def yX6_checkPeer : MethodName := ⟨RX6, "checkPeer", "(I)V"⟩
abbrev cX6_checkPeers : ByteArray := prog_1_method_39_code
def yX6_checkPeers : MethodName := ⟨RX6, "checkPeers", "(II)V"⟩
abbrev cX6_checkTwoPeers : ByteArray := prog_1_method_40_code
def yX6_checkTwoPeers : MethodName := ⟨RX6, "checkTwoPeers", "(II)V"⟩
abbrev cX6_checkThreePeers : ByteArray := prog_1_method_41_code
def yX6_checkThreePeers : MethodName := ⟨RX6, "checkThreePeers", "(III)V"⟩
abbrev cX6_checkSlot : ByteArray := prog_1_method_42_code
def yX6_checkSlot : MethodName := ⟨RX6, "checkSlot", "(I)V"⟩
abbrev cX6_openSession : ByteArray := prog_1_method_43_code
def yX6_openSession : MethodName := ⟨RX6, "openSession", "(I)LPeerOverlay$Session;"⟩
abbrev cX6_forecastOf : ByteArray := prog_1_method_44_code
def yX6_forecastOf : MethodName := ⟨RX6, "forecastOf", "(I)LPeerOverlay$Session;"⟩
def RX7 : String := "PeerOverlayModel"
def TX7 : u_T := fun k => match k with
  | 0 => ("PeerOverlayModel", "thrown", "I", false)
  | 1 => ("PeerOverlayModel", "now", "[I", true)
  | 2 => ("PeerOverlayModel", "told", "[I", true)
  | 3 => ("PeerOverlayModel", "capacity", "[I", true)
  | 4 => ("PeerOverlayModel", "zone", "[I", true)
  | 5 => ("PeerOverlayModel", "delays", "[I", true)
  | 6 => ("PeerOverlayModel", "knowing", "[I", true)
  | 7 => ("PeerOverlayModel", "codes", "[I", true)
  | 8 => ("PeerOverlayModel", "code", "[I", true)
  | 9 => ("PeerOverlayModel", "text", "[B", true)
  | 10 => ("PeerOverlayModel", "length", "I", false)
  | 11 => ("PeerOverlayModel", "textSize", "I", false)
  | 12 => ("PeerOverlayModel", "start", "I", false)
  | 13 => ("PeerOverlayModel", "next", "I", false)
  | 14 => ("PeerOverlayModel", "token", "I", false)
  | 15 => ("PeerOverlayModel", "value", "I", false)
  | 16 => ("PeerOverlayModel", "error", "I", false)
  | 17 => ("PeerOverlayModel", "errorAt", "I", false)
  | 18 => ("PeerOverlayModel", "number", "I", false)
  | 19 => ("PeerOverlayModel", "seen", "I", false)
  | 20 => ("PeerOverlayModel", "one", "I", false)
  | 21 => ("PeerOverlayModel", "other", "I", false)
  | 22 => ("PeerOverlayModel", "opened", "I", false)
  | 23 => ("PeerOverlayModel", "pile", "[I", true)
  | 24 => ("PeerOverlayModel", "facts", "[I", true)
  | 25 => ("PeerOverlayModel", "was", "[I", true)
  | 26 => ("PeerOverlayModel", "undos", "I", false)
  | 27 => ("PeerOverlayModel", "undo", "[I", true)
  | 28 => ("PeerOverlayModel", "slots", "[I", true)
  | _ => ("PeerOverlayModel", "isSaved", "[Z", true)
def tyX7 : Nat → FieldType := fun k => match k with
  | 0 => .int
  | 1 => .array .int
  | 2 => .array .int
  | 3 => .array .int
  | 4 => .array .int
  | 5 => .array .int
  | 6 => .array .int
  | 7 => .array .int
  | 8 => .array .int
  | 9 => .array .byte
  | 10 => .int
  | 11 => .int
  | 12 => .int
  | 13 => .int
  | 14 => .int
  | 15 => .int
  | 16 => .int
  | 17 => .int
  | 18 => .int
  | 19 => .int
  | 20 => .int
  | 21 => .int
  | 22 => .int
  | 23 => .array .int
  | 24 => .array .int
  | 25 => .array .int
  | 26 => .int
  | 27 => .array .int
  | 28 => .array .int
  | _ => .array .boolean
abbrev wsX70 : List Cond := u_ws RX7 TX7 30
theorem nmX7 : ∀ a, a < 30 → ∀ b, b < 30 → a ≠ b → (TX7 a).2.1 ≠ (TX7 b).2.1 := by decide +kernel
theorem tyX7_ok : ∀ k, k < 30 → parseFieldDescriptor (TX7 k).2.2.1 = some (tyX7 k) := by decide +kernel
abbrev cX7_init : ByteArray := prog_9_method_1_code
def yX7_init : MethodName := ⟨RX7, "<init>", "()V"⟩
abbrev cX7_thrown : ByteArray := prog_9_method_2_code
def yX7_thrown : MethodName := ⟨RX7, "thrown", "()I"⟩
abbrev cX7_within : ByteArray := prog_9_method_3_code
def yX7_within : MethodName := ⟨RX7, "within", "(III)Z"⟩
abbrev cX7_has : ByteArray := prog_9_method_4_code
def yX7_has : MethodName := ⟨RX7, "has", "(II)Z"⟩
abbrev cX7_bits : ByteArray := prog_9_method_5_code
def yX7_bits : MethodName := ⟨RX7, "bits", "(I)I"⟩
abbrev cX7_throwsIf : ByteArray := prog_9_method_6_code
def yX7_throwsIf : MethodName := ⟨RX7, "throwsIf", "(ZI)Z"⟩
abbrev cX7_lifts : ByteArray := prog_9_method_7_code
def yX7_lifts : MethodName := ⟨RX7, "lifts", "([I)V"⟩
abbrev cX7_liftsAll : ByteArray := prog_9_method_8_code
def yX7_liftsAll : MethodName := ⟨RX7, "liftsAll", "()V"⟩
abbrev cX7_clearDraft : ByteArray := prog_9_method_9_code
def yX7_clearDraft : MethodName := ⟨RX7, "clearDraft", "()V"⟩
abbrev cX7_append : ByteArray := prog_9_method_10_code
def yX7_append : MethodName := ⟨RX7, "append", "(IIIII)I"⟩
abbrev cX7_bytesOf : ByteArray := prog_9_method_11_code
def yX7_bytesOf : MethodName := ⟨RX7, "bytesOf", "(I)V"⟩
abbrev cX7_byteAt : ByteArray := prog_9_method_12_code
def yX7_byteAt : MethodName := ⟨RX7, "byteAt", "(I)I"⟩
abbrev cX7_isSign : ByteArray := prog_9_method_13_code
def yX7_isSign : MethodName := ⟨RX7, "isSign", "(I)Z"⟩
abbrev cX7_advance : ByteArray := prog_9_method_14_code
def yX7_advance : MethodName := ⟨RX7, "advance", "()V"⟩
abbrev cX7_isWord : ByteArray := prog_9_method_15_code
def yX7_isWord : MethodName := ⟨RX7, "isWord", "(Ljava/lang/String;)Z"⟩
abbrev cX7_isSignHere : ByteArray := prog_9_method_16_code
def yX7_isSignHere : MethodName := ⟨RX7, "isSignHere", "(I)Z"⟩
abbrev cX7_fails : ByteArray := prog_9_method_17_code
def yX7_fails : MethodName := ⟨RX7, "fails", "(I)Z"⟩
abbrev cX7_sees : ByteArray := prog_9_method_18_code
def yX7_sees : MethodName := ⟨RX7, "sees", "(II)Z"⟩
abbrev cX7_takes : ByteArray := prog_9_method_19_code
def yX7_takes : MethodName := ⟨RX7, "takes", "(II)Z"⟩
abbrev cX7_starts : ByteArray := prog_9_method_20_code
def yX7_starts : MethodName := ⟨RX7, "starts", "(IZ)Z"⟩
abbrev cX7_once : ByteArray := prog_9_method_21_code
def yX7_once : MethodName := ⟨RX7, "once", "(I)Z"⟩
abbrev cX7_sets : ByteArray := prog_9_method_22_code
def yX7_sets : MethodName := ⟨RX7, "sets", "(III)Z"⟩
abbrev cX7_closes : ByteArray := prog_9_method_23_code
def yX7_closes : MethodName := ⟨RX7, "closes", "(I)Z"⟩
abbrev cX7_takesTwo : ByteArray := prog_9_method_24_code
def yX7_takesTwo : MethodName := ⟨RX7, "takesTwo", "()Z"⟩
abbrev cX7_peerLine : ByteArray := prog_9_method_25_code
def yX7_peerLine : MethodName := ⟨RX7, "peerLine", "()Z"⟩
abbrev cX7_statement : ByteArray := prog_9_method_26_code
def yX7_statement : MethodName := ⟨RX7, "statement", "()Z"⟩
abbrev cX7_emit : ByteArray := prog_9_method_27_code
def yX7_emit : MethodName := ⟨RX7, "emit", "(I)Z"⟩
abbrev cX7_sum : ByteArray := prog_9_method_28_code
def yX7_sum : MethodName := ⟨RX7, "sum", "()Z"⟩
abbrev cX7_term : ByteArray := prog_9_method_29_code
def yX7_term : MethodName := ⟨RX7, "term", "()Z"⟩
abbrev cX7_nameHere : ByteArray := prog_9_method_30_code
def yX7_nameHere : MethodName := ⟨RX7, "nameHere", "()I"⟩
abbrev cX7_factor : ByteArray := prog_9_method_31_code
def yX7_factor : MethodName := ⟨RX7, "factor", "()Z"⟩
abbrev cX7_scoreOf : ByteArray := prog_9_method_32_code
def yX7_scoreOf : MethodName := ⟨RX7, "scoreOf", "(III)I"⟩
abbrev cX7_joined : ByteArray := prog_9_method_33_code
def yX7_joined : MethodName := ⟨RX7, "joined", "(III)I"⟩
abbrev cX7_parse : ByteArray := prog_9_method_34_code
def yX7_parse : MethodName := ⟨RX7, "parse", "(I)I"⟩
abbrev cX7_errorPosition : ByteArray := prog_9_method_35_code
def yX7_errorPosition : MethodName := ⟨RX7, "errorPosition", "()I"⟩
abbrev cX7_begins : ByteArray := prog_9_method_36_code
def yX7_begins : MethodName := ⟨RX7, "begins", "()V"⟩
abbrev cX7_peerCount : ByteArray := prog_9_method_37_code
def yX7_peerCount : MethodName := ⟨RX7, "peerCount", "()I"⟩
abbrev cX7_tick : ByteArray := prog_9_method_38_code
def yX7_tick : MethodName := ⟨RX7, "tick", "()I"⟩
abbrev cX7_no : ByteArray := prog_9_method_39_code
def yX7_no : MethodName := ⟨RX7, "no", "(II)Z"⟩
abbrev cX7_noPeers : ByteArray := prog_9_method_40_code
def yX7_noPeers : MethodName := ⟨RX7, "noPeers", "(II)Z"⟩
abbrev cX7_noTwo : ByteArray := prog_9_method_41_code
def yX7_noTwo : MethodName := ⟨RX7, "noTwo", "(II)Z"⟩
abbrev cX7_areKnown : ByteArray := prog_9_method_42_code
def yX7_areKnown : MethodName := ⟨RX7, "areKnown", "(II)Z"⟩
abbrev cX7_isUp : ByteArray := prog_9_method_43_code
def yX7_isUp : MethodName := ⟨RX7, "isUp", "(II)Z"⟩
abbrev cX7_knows : ByteArray := prog_9_method_44_code
def yX7_knows : MethodName := ⟨RX7, "knows", "(II)Z"⟩
abbrev cX7_delay : ByteArray := prog_9_method_45_code
def yX7_delay : MethodName := ⟨RX7, "delay", "(II)I"⟩
abbrev cX7_introductionsNeeded : ByteArray := prog_9_method_46_code
def yX7_introductionsNeeded : MethodName := ⟨RX7, "introductionsNeeded", "(II)I"⟩
abbrev cX7_introducer : ByteArray := prog_9_method_47_code
def yX7_introducer : MethodName := ⟨RX7, "introducer", "(II)I"⟩
abbrev cX7_of : ByteArray := prog_9_method_48_code
def yX7_of : MethodName := ⟨RX7, "of", "(II)I"⟩
abbrev cX7_isOpen : ByteArray := prog_9_method_49_code
def yX7_isOpen : MethodName := ⟨RX7, "isOpen", "(I)Z"⟩
abbrev cX7_loadOf : ByteArray := prog_9_method_50_code
def yX7_loadOf : MethodName := ⟨RX7, "loadOf", "(I)I"⟩
abbrev cX7_load : ByteArray := prog_9_method_51_code
def yX7_load : MethodName := ⟨RX7, "load", "(I)I"⟩
abbrev cX7_canRelay : ByteArray := prog_9_method_52_code
def yX7_canRelay : MethodName := ⟨RX7, "canRelay", "(III)Z"⟩
abbrev cX7_bestFor : ByteArray := prog_9_method_53_code
def yX7_bestFor : MethodName := ⟨RX7, "bestFor", "(II)I"⟩
abbrev cX7_bestRelay : ByteArray := prog_9_method_54_code
def yX7_bestRelay : MethodName := ⟨RX7, "bestRelay", "(II)I"⟩
abbrev cX7_noThree : ByteArray := prog_9_method_55_code
def yX7_noThree : MethodName := ⟨RX7, "noThree", "(III)Z"⟩
abbrev cX7_relayScore : ByteArray := prog_9_method_56_code
def yX7_relayScore : MethodName := ⟨RX7, "relayScore", "(III)I"⟩
abbrev cX7_sessions : ByteArray := prog_9_method_57_code
def yX7_sessions : MethodName := ⟨RX7, "sessions", "()I"⟩
abbrev cX7_sessionOf : ByteArray := prog_9_method_58_code
def yX7_sessionOf : MethodName := ⟨RX7, "sessionOf", "(II)I"⟩
abbrev cX7_session : ByteArray := prog_9_method_59_code
def yX7_session : MethodName := ⟨RX7, "session", "(II)I"⟩
abbrev cX7_noSession : ByteArray := prog_9_method_60_code
def yX7_noSession : MethodName := ⟨RX7, "noSession", "(I)Z"⟩
abbrev cX7_asked : ByteArray := prog_9_method_61_code
def yX7_asked : MethodName := ⟨RX7, "asked", "(II)I"⟩
abbrev cX7_path : ByteArray := prog_9_method_62_code
def yX7_path : MethodName := ⟨RX7, "path", "(I)I"⟩
abbrev cX7_oldPath : ByteArray := prog_9_method_63_code
def yX7_oldPath : MethodName := ⟨RX7, "oldPath", "(I)I"⟩
abbrev cX7_successes : ByteArray := prog_9_method_64_code
def yX7_successes : MethodName := ⟨RX7, "successes", "(I)I"⟩
abbrev cX7_undelivered : ByteArray := prog_9_method_65_code
def yX7_undelivered : MethodName := ⟨RX7, "undelivered", "(I)I"⟩
abbrev cX7_message : ByteArray := prog_9_method_66_code
def yX7_message : MethodName := ⟨RX7, "message", "(II)I"⟩
abbrev cX7_inState : ByteArray := prog_9_method_67_code
def yX7_inState : MethodName := ⟨RX7, "inState", "(II)I"⟩
abbrev cX7_messages : ByteArray := prog_9_method_68_code
def yX7_messages : MethodName := ⟨RX7, "messages", "(II)I"⟩
abbrev cX7_lastValue : ByteArray := prog_9_method_69_code
def yX7_lastValue : MethodName := ⟨RX7, "lastValue", "(I)I"⟩
abbrev cX7_digest : ByteArray := prog_9_method_70_code
def yX7_digest : MethodName := ⟨RX7, "digest", "(I)I"⟩
abbrev cX7_key : ByteArray := prog_9_method_71_code
def yX7_key : MethodName := ⟨RX7, "key", "(I)I"⟩
abbrev cX7_oldestKey : ByteArray := prog_9_method_72_code
def yX7_oldestKey : MethodName := ⟨RX7, "oldestKey", "(I)I"⟩
abbrev cX7_keyStart : ByteArray := prog_9_method_73_code
def yX7_keyStart : MethodName := ⟨RX7, "keyStart", "(I)I"⟩
abbrev cX7_turnsKey : ByteArray := prog_9_method_74_code
def yX7_turnsKey : MethodName := ⟨RX7, "turnsKey", "(I)V"⟩
abbrev cX7_delayBy : ByteArray := prog_9_method_75_code
def yX7_delayBy : MethodName := ⟨RX7, "delayBy", "(II)I"⟩
abbrev cX7_travels : ByteArray := prog_9_method_76_code
def yX7_travels : MethodName := ⟨RX7, "travels", "(II)V"⟩
abbrev cX7_takesPath : ByteArray := prog_9_method_77_code
def yX7_takesPath : MethodName := ⟨RX7, "takesPath", "(II)V"⟩
abbrev cX7_delivers : ByteArray := prog_9_method_78_code
def yX7_delivers : MethodName := ⟨RX7, "delivers", "(I)I"⟩
abbrev cX7_probes : ByteArray := prog_9_method_79_code
def yX7_probes : MethodName := ⟨RX7, "probes", "(I)V"⟩
abbrev cX7_emptiesOld : ByteArray := prog_9_method_80_code
def yX7_emptiesOld : MethodName := ⟨RX7, "emptiesOld", "(I)V"⟩
abbrev cX7_ticks : ByteArray := prog_9_method_81_code
def yX7_ticks : MethodName := ⟨RX7, "ticks", "()I"⟩
abbrev cX7_usesLink : ByteArray := prog_9_method_82_code
def yX7_usesLink : MethodName := ⟨RX7, "usesLink", "(IIII)Z"⟩
abbrev cX7_breaks : ByteArray := prog_9_method_83_code
def yX7_breaks : MethodName := ⟨RX7, "breaks", "(III)I"⟩
abbrev cX7_ticksToDeliver : ByteArray := prog_9_method_84_code
def yX7_ticksToDeliver : MethodName := ⟨RX7, "ticksToDeliver", "(I)I"⟩
abbrev cX7_ticksToDirect : ByteArray := prog_9_method_85_code
def yX7_ticksToDirect : MethodName := ⟨RX7, "ticksToDirect", "(I)I"⟩
abbrev cX7_run : ByteArray := prog_9_method_86_code
def yX7_run : MethodName := ⟨RX7, "run", "(I)I"⟩
abbrev cX7_introduce : ByteArray := prog_9_method_87_code
def yX7_introduce : MethodName := ⟨RX7, "introduce", "(III)I"⟩
abbrev cX7_open : ByteArray := prog_9_method_88_code
def yX7_open : MethodName := ⟨RX7, "open", "(II)I"⟩
abbrev cX7_send : ByteArray := prog_9_method_89_code
def yX7_send : MethodName := ⟨RX7, "send", "(II)I"⟩
abbrev cX7_setLink : ByteArray := prog_9_method_90_code
def yX7_setLink : MethodName := ⟨RX7, "setLink", "(IIZ)I"⟩
abbrev cX7_close : ByteArray := prog_9_method_91_code
def yX7_close : MethodName := ⟨RX7, "close", "(I)I"⟩
abbrev cX7_copies : ByteArray := prog_9_method_92_code
def yX7_copies : MethodName := ⟨RX7, "copies", "([II[III)V"⟩
abbrev cX7_keeps : ByteArray := prog_9_method_93_code
def yX7_keeps : MethodName := ⟨RX7, "keeps", "()V"⟩
abbrev cX7_undo : ByteArray := prog_9_method_94_code
def yX7_undo : MethodName := ⟨RX7, "undo", "()I"⟩
abbrev cX7_noSlot : ByteArray := prog_9_method_95_code
def yX7_noSlot : MethodName := ⟨RX7, "noSlot", "(I)Z"⟩
abbrev cX7_saveSnapshot : ByteArray := prog_9_method_96_code
def yX7_saveSnapshot : MethodName := ⟨RX7, "saveSnapshot", "(I)Z"⟩
abbrev cX7_restoreSnapshot : ByteArray := prog_9_method_97_code
def yX7_restoreSnapshot : MethodName := ⟨RX7, "restoreSnapshot", "(I)I"⟩
def RJ6 : String := "java/lang/Integer"
def TJ6 : u_T := fun k => match k with
  | _ => ("", "", "", false)
def tyJ6 : Nat → FieldType := fun k => match k with
  | _ => .int
abbrev wsJ60 : List Cond := u_ws RJ6 TJ6 0
theorem nmJ6 : ∀ a, a < 0 → ∀ b, b < 0 → a ≠ b → (TJ6 a).2.1 ≠ (TJ6 b).2.1 := by decide +kernel
theorem tyJ6_ok : ∀ k, k < 0 → parseFieldDescriptor (TJ6 k).2.2.1 = some (tyJ6 k) := by decide +kernel
abbrev cJ6_bitCount_0f7a4 : ByteArray := prog_14_method_49_code
def yJ6_bitCount_0f7a4 : MethodName := ⟨RJ6, "bitCount", "(I)I"⟩
def RJ9 : String := "java/lang/Math"
def TJ9 : u_T := fun k => match k with
  | _ => ("", "", "", false)
def tyJ9 : Nat → FieldType := fun k => match k with
  | _ => .int
abbrev wsJ90 : List Cond := u_ws RJ9 TJ9 0
theorem nmJ9 : ∀ a, a < 0 → ∀ b, b < 0 → a ≠ b → (TJ9 a).2.1 ≠ (TJ9 b).2.1 := by decide +kernel
theorem tyJ9_ok : ∀ k, k < 0 → parseFieldDescriptor (TJ9 k).2.2.1 = some (tyJ9 k) := by decide +kernel
abbrev cJ9_floorMod_7cf53 : ByteArray := prog_15_method_50_code
def yJ9_floorMod_7cf53 : MethodName := ⟨RJ9, "floorMod", "(II)I"⟩
abbrev cJ9_min_7cf53 : ByteArray := prog_15_method_69_code
def yJ9_min_7cf53 : MethodName := ⟨RJ9, "min", "(II)I"⟩
def RJ0 : String := "java/lang/String"
def TJ0 : u_T := fun k => match k with
  | _ => ("", "", "", false)
def tyJ0 : Nat → FieldType := fun k => match k with
  | _ => .int
abbrev wsJ00 : List Cond := u_ws RJ0 TJ0 0
theorem nmJ0 : ∀ a, a < 0 → ∀ b, b < 0 → a ≠ b → (TJ0 a).2.1 ≠ (TJ0 b).2.1 := by decide +kernel
theorem tyJ0_ok : ∀ k, k < 0 → parseFieldDescriptor (TJ0 k).2.2.1 = some (tyJ0 k) := by decide +kernel
abbrev cJ0_length_8abf5 : ByteArray := prog_17_method_54_code
def yJ0_length_8abf5 : MethodName := ⟨RJ0, "length", "()I"⟩
abbrev cJ0_charAt_5068e : ByteArray := prog_17_method_56_code
def yJ0_charAt_5068e : MethodName := ⟨RJ0, "charAt", "(I)C"⟩
abbrev cJ0_coder_7d493 : ByteArray := prog_17_method_152_code
def yJ0_coder_7d493 : MethodName := ⟨RJ0, "coder", "()B"⟩
abbrev cJ0_isLatin1_aae02 : ByteArray := prog_17_method_154_code
def yJ0_isLatin1_aae02 : MethodName := ⟨RJ0, "isLatin1", "()Z"⟩
abbrev cJ0_checkIndex_df160 : ByteArray := prog_17_method_155_code
def yJ0_checkIndex_df160 : MethodName := ⟨RJ0, "checkIndex", "(II)V"⟩
def RJ1 : String := "java/lang/StringLatin1"
def TJ1 : u_T := fun k => match k with
  | _ => ("", "", "", false)
def tyJ1 : Nat → FieldType := fun k => match k with
  | _ => .int
abbrev wsJ10 : List Cond := u_ws RJ1 TJ1 0
theorem nmJ1 : ∀ a, a < 0 → ∀ b, b < 0 → a ≠ b → (TJ1 a).2.1 ≠ (TJ1 b).2.1 := by decide +kernel
theorem tyJ1_ok : ∀ k, k < 0 → parseFieldDescriptor (TJ1 k).2.2.1 = some (tyJ1 k) := by decide +kernel
abbrev cJ1_charAt_3b067 : ByteArray := prog_18_method_2_code
def yJ1_charAt_3b067 : MethodName := ⟨RJ1, "charAt", "([BI)C"⟩
def RJ2 : String := "java/lang/StringUTF16"
def TJ2 : u_T := fun k => match k with
  | _ => ("", "", "", false)
def tyJ2 : Nat → FieldType := fun k => match k with
  | _ => .int
abbrev wsJ20 : List Cond := u_ws RJ2 TJ2 0
theorem nmJ2 : ∀ a, a < 0 → ∀ b, b < 0 → a ≠ b → (TJ2 a).2.1 ≠ (TJ2 b).2.1 := by decide +kernel
theorem tyJ2_ok : ∀ k, k < 0 → parseFieldDescriptor (TJ2 k).2.2.1 = some (tyJ2 k) := by decide +kernel
abbrev cJ2_getChar_3b067 : ByteArray := prog_19_method_5_code
def yJ2_getChar_3b067 : MethodName := ⟨RJ2, "getChar", "([BI)C"⟩
abbrev cJ2_length_9d52b : ByteArray := prog_19_method_6_code
def yJ2_length_9d52b : MethodName := ⟨RJ2, "length", "([B)I"⟩
abbrev cJ2_charAt_3b067 : ByteArray := prog_19_method_83_code
def yJ2_charAt_3b067 : MethodName := ⟨RJ2, "charAt", "([BI)C"⟩
abbrev cJ2_checkIndex_2214a : ByteArray := prog_19_method_91_code
def yJ2_checkIndex_2214a : MethodName := ⟨RJ2, "checkIndex", "(I[B)V"⟩
def RJ10 : String := "java/lang/System"
def TJ10 : u_T := fun k => match k with
  | _ => ("", "", "", false)
def tyJ10 : Nat → FieldType := fun k => match k with
  | _ => .int
abbrev wsJ100 : List Cond := u_ws RJ10 TJ10 0
theorem nmJ10 : ∀ a, a < 0 → ∀ b, b < 0 → a ≠ b → (TJ10 a).2.1 ≠ (TJ10 b).2.1 := by decide +kernel
theorem tyJ10_ok : ∀ k, k < 0 → parseFieldDescriptor (TJ10 k).2.2.1 = some (tyJ10 k) := by decide +kernel
def RJ3 : String := "jdk/internal/util/Preconditions"
def TJ3 : u_T := fun k => match k with
  | _ => ("", "", "", false)
def tyJ3 : Nat → FieldType := fun k => match k with
  | _ => .int
abbrev wsJ30 : List Cond := u_ws RJ3 TJ3 0
theorem nmJ3 : ∀ a, a < 0 → ∀ b, b < 0 → a ≠ b → (TJ3 a).2.1 ≠ (TJ3 b).2.1 := by decide +kernel
theorem tyJ3_ok : ∀ k, k < 0 → parseFieldDescriptor (TJ3 k).2.2.1 = some (tyJ3 k) := by decide +kernel
abbrev cJ3_checkIndex_8e157 : ByteArray := prog_22_method_11_code
def yJ3_checkIndex_8e157 : MethodName := ⟨RJ3, "checkIndex", "(IILjava/util/function/BiFunction;)I"⟩
def RL : String := "PeerOverlayLaw"
abbrev cL_parse : ByteArray := method_3_code
def yL_parse : MethodName := ⟨RL, "parse", "(LPeerOverlay;I[J)I"⟩
abbrev cL_knows : ByteArray := method_4_code
def yL_knows : MethodName := ⟨RL, "knows", "(LPeerOverlay;II[J)I"⟩
abbrev cL_delay : ByteArray := method_5_code
def yL_delay : MethodName := ⟨RL, "delay", "(LPeerOverlay;II[J)I"⟩
abbrev cL_introductionsNeeded : ByteArray := method_6_code
def yL_introductionsNeeded : MethodName := ⟨RL, "introductionsNeeded", "(LPeerOverlay;II[J)I"⟩
abbrev cL_introducer : ByteArray := method_7_code
def yL_introducer : MethodName := ⟨RL, "introducer", "(LPeerOverlay;II[J)I"⟩
abbrev cL_load : ByteArray := method_8_code
def yL_load : MethodName := ⟨RL, "load", "(LPeerOverlay;I[J)I"⟩
abbrev cL_bestRelay : ByteArray := method_9_code
def yL_bestRelay : MethodName := ⟨RL, "bestRelay", "(LPeerOverlay;II[J)I"⟩
abbrev cL_relayScore : ByteArray := method_10_code
def yL_relayScore : MethodName := ⟨RL, "relayScore", "(LPeerOverlay;III[J)I"⟩
abbrev cL_session : ByteArray := method_11_code
def yL_session : MethodName := ⟨RL, "session", "(LPeerOverlay;II[J)I"⟩
abbrev cL_path : ByteArray := method_12_code
def yL_path : MethodName := ⟨RL, "path", "(LPeerOverlay;I[J)I"⟩
abbrev cL_oldPath : ByteArray := method_13_code
def yL_oldPath : MethodName := ⟨RL, "oldPath", "(LPeerOverlay;I[J)I"⟩
abbrev cL_successes : ByteArray := method_14_code
def yL_successes : MethodName := ⟨RL, "successes", "(LPeerOverlay;I[J)I"⟩
abbrev cL_messages : ByteArray := method_15_code
def yL_messages : MethodName := ⟨RL, "messages", "(LPeerOverlay;II[J)I"⟩
abbrev cL_lastValue : ByteArray := method_16_code
def yL_lastValue : MethodName := ⟨RL, "lastValue", "(LPeerOverlay;I[J)I"⟩
abbrev cL_digest : ByteArray := method_17_code
def yL_digest : MethodName := ⟨RL, "digest", "(LPeerOverlay;I[J)I"⟩
abbrev cL_key : ByteArray := method_18_code
def yL_key : MethodName := ⟨RL, "key", "(LPeerOverlay;I[J)I"⟩
abbrev cL_oldestKey : ByteArray := method_19_code
def yL_oldestKey : MethodName := ⟨RL, "oldestKey", "(LPeerOverlay;I[J)I"⟩
abbrev cL_keyStart : ByteArray := method_20_code
def yL_keyStart : MethodName := ⟨RL, "keyStart", "(LPeerOverlay;I[J)I"⟩
abbrev cL_ticksToDeliver : ByteArray := method_21_code
def yL_ticksToDeliver : MethodName := ⟨RL, "ticksToDeliver", "(LPeerOverlay;I[J)I"⟩
abbrev cL_ticksToDirect : ByteArray := method_22_code
def yL_ticksToDirect : MethodName := ⟨RL, "ticksToDirect", "(LPeerOverlay;I[J)I"⟩
abbrev cL_run : ByteArray := method_23_code
def yL_run : MethodName := ⟨RL, "run", "(LPeerOverlay;I[J)I"⟩
abbrev cL_introduce : ByteArray := method_24_code
def yL_introduce : MethodName := ⟨RL, "introduce", "(LPeerOverlay;III[J)I"⟩
abbrev cL_open : ByteArray := method_25_code
def yL_open : MethodName := ⟨RL, "open", "(LPeerOverlay;II[J)I"⟩
abbrev cL_send : ByteArray := method_26_code
def yL_send : MethodName := ⟨RL, "send", "(LPeerOverlay;II[J)I"⟩
abbrev cL_setLink : ByteArray := method_27_code
def yL_setLink : MethodName := ⟨RL, "setLink", "(LPeerOverlay;IIZ[J)I"⟩
abbrev cL_close : ByteArray := method_28_code
def yL_close : MethodName := ⟨RL, "close", "(LPeerOverlay;I[J)I"⟩
abbrev cL_saveSnapshot : ByteArray := method_29_code
def yL_saveSnapshot : MethodName := ⟨RL, "saveSnapshot", "(LPeerOverlay;I[J)I"⟩
abbrev cL_restoreSnapshot : ByteArray := method_30_code
def yL_restoreSnapshot : MethodName := ⟨RL, "restoreSnapshot", "(LPeerOverlay;I[J)I"⟩
abbrev cL_law : ByteArray := code
def yL_law : MethodName := ⟨RL, "law", "([I)Z"⟩
abbrev vwCl : List vw_C := [(RX0, TX0, 3), (RX1, TX1, 9), (RX2, TX2, 10), (RX3, TX3, 4), (RX4, TX4, 17), (RX5, TX5, 4), (RX6, TX6, 10), (RX7, TX7, 30)]
end
section
theorem dX0_init_0 : decode cX0_init 0 = .ok (.aload_n 0, 1) := by decide +kernel
theorem dX0_init_1 : decode cX0_init 1 = .ok (.invokespecial 3, 3) := by decide +kernel
theorem dX0_init_4 : decode cX0_init 4 = .ok (.aload_n 0, 1) := by decide +kernel
theorem dX0_init_5 : decode cX0_init 5 = .ok (.bipush 10, 2) := by decide +kernel
theorem dX0_init_7 : decode cX0_init 7 = .ok (.anewarray 9, 3) := by decide +kernel
theorem dX0_init_10 : decode cX0_init 10 = .ok (.putfield 11, 3) := by decide +kernel
theorem dX0_init_13 : decode cX0_init 13 = .ok (.iconst 0, 1) := by decide +kernel
theorem dX0_init_14 : decode cX0_init 14 = .ok (.istore_n 1, 1) := by decide +kernel
theorem dX0_init_15 : decode cX0_init 15 = .ok (.iload_n 1, 1) := by decide +kernel
theorem dX0_init_16 : decode cX0_init 16 = .ok (.bipush 10, 2) := by decide +kernel
theorem dX0_init_18 : decode cX0_init 18 = .ok (.if_icmp .ge 22, 3) := by decide +kernel
theorem dX0_init_21 : decode cX0_init 21 = .ok (.aload_n 0, 1) := by decide +kernel
theorem dX0_init_22 : decode cX0_init 22 = .ok (.getfield 11, 3) := by decide +kernel
theorem dX0_init_25 : decode cX0_init 25 = .ok (.iload_n 1, 1) := by decide +kernel
theorem dX0_init_26 : decode cX0_init 26 = .ok (.new 9, 3) := by decide +kernel
theorem dX0_init_29 : decode cX0_init 29 = .ok (.dup, 1) := by decide +kernel
theorem dX0_init_30 : decode cX0_init 30 = .ok (.invokespecial 17, 3) := by decide +kernel
theorem dX0_init_33 : decode cX0_init 33 = .ok (.aastore, 1) := by decide +kernel
theorem dX0_init_34 : decode cX0_init 34 = .ok (.iinc 1 1, 3) := by decide +kernel
theorem dX0_init_37 : decode cX0_init 37 = .ok (.goto (-22), 3) := by decide +kernel
theorem dX0_init_40 : decode cX0_init 40 = .ok (.return_, 1) := by decide +kernel
theorem dX0_keep_0 : decode cX0_keep 0 = .ok (.aload_n 0, 1) := by decide +kernel
theorem dX0_keep_1 : decode cX0_keep 1 = .ok (.getfield 11, 3) := by decide +kernel
theorem dX0_keep_4 : decode cX0_keep 4 = .ok (.aload_n 0, 1) := by decide +kernel
theorem dX0_keep_5 : decode cX0_keep 5 = .ok (.getfield 18, 3) := by decide +kernel
theorem dX0_keep_8 : decode cX0_keep 8 = .ok (.aaload, 1) := by decide +kernel
theorem dX0_keep_9 : decode cX0_keep 9 = .ok (.aload_n 1, 1) := by decide +kernel
theorem dX0_keep_10 : decode cX0_keep 10 = .ok (.invokevirtual 22, 3) := by decide +kernel
theorem dX0_keep_13 : decode cX0_keep 13 = .ok (.aload_n 0, 1) := by decide +kernel
theorem dX0_keep_14 : decode cX0_keep 14 = .ok (.aload_n 0, 1) := by decide +kernel
theorem dX0_keep_15 : decode cX0_keep 15 = .ok (.getfield 18, 3) := by decide +kernel
theorem dX0_keep_18 : decode cX0_keep 18 = .ok (.iconst 1, 1) := by decide +kernel
theorem dX0_keep_19 : decode cX0_keep 19 = .ok (.iadd, 1) := by decide +kernel
theorem dX0_keep_20 : decode cX0_keep 20 = .ok (.bipush 10, 2) := by decide +kernel
theorem dX0_keep_22 : decode cX0_keep 22 = .ok (.if_icmp .ge 12, 3) := by decide +kernel
theorem dX0_keep_25 : decode cX0_keep 25 = .ok (.aload_n 0, 1) := by decide +kernel
theorem dX0_keep_26 : decode cX0_keep 26 = .ok (.getfield 18, 3) := by decide +kernel
theorem dX0_keep_29 : decode cX0_keep 29 = .ok (.iconst 1, 1) := by decide +kernel
theorem dX0_keep_30 : decode cX0_keep 30 = .ok (.iadd, 1) := by decide +kernel
theorem dX0_keep_31 : decode cX0_keep 31 = .ok (.goto 4, 3) := by decide +kernel
theorem dX0_keep_34 : decode cX0_keep 34 = .ok (.iconst 0, 1) := by decide +kernel
theorem dX0_keep_35 : decode cX0_keep 35 = .ok (.putfield 18, 3) := by decide +kernel
theorem dX0_keep_38 : decode cX0_keep 38 = .ok (.aload_n 0, 1) := by decide +kernel
theorem dX0_keep_39 : decode cX0_keep 39 = .ok (.aload_n 0, 1) := by decide +kernel
theorem dX0_keep_40 : decode cX0_keep 40 = .ok (.getfield 26, 3) := by decide +kernel
theorem dX0_keep_43 : decode cX0_keep 43 = .ok (.iconst 1, 1) := by decide +kernel
theorem dX0_keep_44 : decode cX0_keep 44 = .ok (.iadd, 1) := by decide +kernel
theorem dX0_keep_45 : decode cX0_keep 45 = .ok (.bipush 10, 2) := by decide +kernel
theorem dX0_keep_47 : decode cX0_keep 47 = .ok (.invokestatic 29, 3) := by decide +kernel
theorem dX0_keep_50 : decode cX0_keep 50 = .ok (.putfield 26, 3) := by decide +kernel
theorem dX0_keep_53 : decode cX0_keep 53 = .ok (.return_, 1) := by decide +kernel
theorem dX0_takeBack_0 : decode cX0_takeBack 0 = .ok (.aload_n 0, 1) := by decide +kernel
theorem dX0_takeBack_1 : decode cX0_takeBack 1 = .ok (.getfield 26, 3) := by decide +kernel
theorem dX0_takeBack_4 : decode cX0_takeBack 4 = .ok (.ifCond .ne 5, 3) := by decide +kernel
theorem dX0_takeBack_7 : decode cX0_takeBack 7 = .ok (.iconst (-1), 1) := by decide +kernel
theorem dX0_takeBack_8 : decode cX0_takeBack 8 = .ok (.ireturn, 1) := by decide +kernel
theorem dX0_takeBack_9 : decode cX0_takeBack 9 = .ok (.aload_n 0, 1) := by decide +kernel
theorem dX0_takeBack_10 : decode cX0_takeBack 10 = .ok (.aload_n 0, 1) := by decide +kernel
theorem dX0_takeBack_11 : decode cX0_takeBack 11 = .ok (.getfield 18, 3) := by decide +kernel
theorem dX0_takeBack_14 : decode cX0_takeBack 14 = .ok (.ifCond .le 12, 3) := by decide +kernel
theorem dX0_takeBack_17 : decode cX0_takeBack 17 = .ok (.aload_n 0, 1) := by decide +kernel
theorem dX0_takeBack_18 : decode cX0_takeBack 18 = .ok (.getfield 18, 3) := by decide +kernel
theorem dX0_takeBack_21 : decode cX0_takeBack 21 = .ok (.iconst 1, 1) := by decide +kernel
theorem dX0_takeBack_22 : decode cX0_takeBack 22 = .ok (.isub, 1) := by decide +kernel
theorem dX0_takeBack_23 : decode cX0_takeBack 23 = .ok (.goto 5, 3) := by decide +kernel
theorem dX0_takeBack_26 : decode cX0_takeBack 26 = .ok (.bipush 9, 2) := by decide +kernel
theorem dX0_takeBack_28 : decode cX0_takeBack 28 = .ok (.putfield 18, 3) := by decide +kernel
theorem dX0_takeBack_31 : decode cX0_takeBack 31 = .ok (.aload_n 0, 1) := by decide +kernel
theorem dX0_takeBack_32 : decode cX0_takeBack 32 = .ok (.dup, 1) := by decide +kernel
theorem dX0_takeBack_33 : decode cX0_takeBack 33 = .ok (.getfield 26, 3) := by decide +kernel
theorem dX0_takeBack_36 : decode cX0_takeBack 36 = .ok (.iconst 1, 1) := by decide +kernel
theorem dX0_takeBack_37 : decode cX0_takeBack 37 = .ok (.isub, 1) := by decide +kernel
theorem dX0_takeBack_38 : decode cX0_takeBack 38 = .ok (.putfield 26, 3) := by decide +kernel
theorem dX0_takeBack_41 : decode cX0_takeBack 41 = .ok (.aload_n 1, 1) := by decide +kernel
theorem dX0_takeBack_42 : decode cX0_takeBack 42 = .ok (.aload_n 0, 1) := by decide +kernel
theorem dX0_takeBack_43 : decode cX0_takeBack 43 = .ok (.getfield 11, 3) := by decide +kernel
theorem dX0_takeBack_46 : decode cX0_takeBack 46 = .ok (.aload_n 0, 1) := by decide +kernel
theorem dX0_takeBack_47 : decode cX0_takeBack 47 = .ok (.getfield 18, 3) := by decide +kernel
theorem dX0_takeBack_50 : decode cX0_takeBack 50 = .ok (.aaload, 1) := by decide +kernel
theorem dX0_takeBack_51 : decode cX0_takeBack 51 = .ok (.invokevirtual 22, 3) := by decide +kernel
theorem dX0_takeBack_54 : decode cX0_takeBack 54 = .ok (.aload_n 0, 1) := by decide +kernel
theorem dX0_takeBack_55 : decode cX0_takeBack 55 = .ok (.getfield 26, 3) := by decide +kernel
theorem dX0_takeBack_58 : decode cX0_takeBack 58 = .ok (.ireturn, 1) := by decide +kernel
theorem dX0_forget_0 : decode cX0_forget 0 = .ok (.aload_n 0, 1) := by decide +kernel
theorem dX0_forget_1 : decode cX0_forget 1 = .ok (.iconst 0, 1) := by decide +kernel
theorem dX0_forget_2 : decode cX0_forget 2 = .ok (.putfield 26, 3) := by decide +kernel
theorem dX0_forget_5 : decode cX0_forget 5 = .ok (.return_, 1) := by decide +kernel
theorem dX1_init_0 : decode cX1_init 0 = .ok (.aload_n 0, 1) := by decide +kernel
theorem dX1_init_1 : decode cX1_init 1 = .ok (.invokespecial 3, 3) := by decide +kernel
theorem dX1_init_4 : decode cX1_init 4 = .ok (.aload_n 0, 1) := by decide +kernel
theorem dX1_init_5 : decode cX1_init 5 = .ok (.bipush 8, 2) := by decide +kernel
theorem dX1_init_7 : decode cX1_init 7 = .ok (.newarray .int, 2) := by decide +kernel
theorem dX1_init_9 : decode cX1_init 9 = .ok (.putfield 9, 3) := by decide +kernel
theorem dX1_init_12 : decode cX1_init 12 = .ok (.aload_n 0, 1) := by decide +kernel
theorem dX1_init_13 : decode cX1_init 13 = .ok (.bipush 8, 2) := by decide +kernel
theorem dX1_init_15 : decode cX1_init 15 = .ok (.newarray .int, 2) := by decide +kernel
theorem dX1_init_17 : decode cX1_init 17 = .ok (.putfield 15, 3) := by decide +kernel
theorem dX1_init_20 : decode cX1_init 20 = .ok (.aload_n 0, 1) := by decide +kernel
theorem dX1_init_21 : decode cX1_init 21 = .ok (.bipush 64, 2) := by decide +kernel
theorem dX1_init_23 : decode cX1_init 23 = .ok (.newarray .int, 2) := by decide +kernel
theorem dX1_init_25 : decode cX1_init 25 = .ok (.putfield 18, 3) := by decide +kernel
theorem dX1_init_28 : decode cX1_init 28 = .ok (.aload_n 0, 1) := by decide +kernel
theorem dX1_init_29 : decode cX1_init 29 = .ok (.bipush 8, 2) := by decide +kernel
theorem dX1_init_31 : decode cX1_init 31 = .ok (.newarray .int, 2) := by decide +kernel
theorem dX1_init_33 : decode cX1_init 33 = .ok (.putfield 21, 3) := by decide +kernel
theorem dX1_init_36 : decode cX1_init 36 = .ok (.aload_n 0, 1) := by decide +kernel
theorem dX1_init_37 : decode cX1_init 37 = .ok (.new 24, 3) := by decide +kernel
theorem dX1_init_40 : decode cX1_init 40 = .ok (.dup, 1) := by decide +kernel
theorem dX1_init_41 : decode cX1_init 41 = .ok (.invokespecial 26, 3) := by decide +kernel
theorem dX1_init_44 : decode cX1_init 44 = .ok (.putfield 27, 3) := by decide +kernel
theorem dX1_init_47 : decode cX1_init 47 = .ok (.aload_n 0, 1) := by decide +kernel
theorem dX1_init_48 : decode cX1_init 48 = .ok (.invokevirtual 31, 3) := by decide +kernel
theorem dX1_init_51 : decode cX1_init 51 = .ok (.return_, 1) := by decide +kernel
theorem dX1_clear_0 : decode cX1_clear 0 = .ok (.aload_n 0, 1) := by decide +kernel
theorem dX1_clear_1 : decode cX1_clear 1 = .ok (.iconst 0, 1) := by decide +kernel
theorem dX1_clear_2 : decode cX1_clear 2 = .ok (.putfield 34, 3) := by decide +kernel
theorem dX1_clear_5 : decode cX1_clear 5 = .ok (.iconst 0, 1) := by decide +kernel
theorem dX1_clear_6 : decode cX1_clear 6 = .ok (.istore_n 1, 1) := by decide +kernel
theorem dX1_clear_7 : decode cX1_clear 7 = .ok (.iload_n 1, 1) := by decide +kernel
theorem dX1_clear_8 : decode cX1_clear 8 = .ok (.bipush 64, 2) := by decide +kernel
theorem dX1_clear_10 : decode cX1_clear 10 = .ok (.if_icmp .ge 16, 3) := by decide +kernel
theorem dX1_clear_13 : decode cX1_clear 13 = .ok (.aload_n 0, 1) := by decide +kernel
theorem dX1_clear_14 : decode cX1_clear 14 = .ok (.getfield 18, 3) := by decide +kernel
theorem dX1_clear_17 : decode cX1_clear 17 = .ok (.iload_n 1, 1) := by decide +kernel
theorem dX1_clear_18 : decode cX1_clear 18 = .ok (.iconst 0, 1) := by decide +kernel
theorem dX1_clear_19 : decode cX1_clear 19 = .ok (.iastore, 1) := by decide +kernel
theorem dX1_clear_20 : decode cX1_clear 20 = .ok (.iinc 1 1, 3) := by decide +kernel
theorem dX1_clear_23 : decode cX1_clear 23 = .ok (.goto (-16), 3) := by decide +kernel
theorem dX1_clear_26 : decode cX1_clear 26 = .ok (.iconst 0, 1) := by decide +kernel
theorem dX1_clear_27 : decode cX1_clear 27 = .ok (.istore_n 1, 1) := by decide +kernel
theorem dX1_clear_28 : decode cX1_clear 28 = .ok (.iload_n 1, 1) := by decide +kernel
theorem dX1_clear_29 : decode cX1_clear 29 = .ok (.bipush 8, 2) := by decide +kernel
theorem dX1_clear_31 : decode cX1_clear 31 = .ok (.if_icmp .ge 16, 3) := by decide +kernel
theorem dX1_clear_34 : decode cX1_clear 34 = .ok (.aload_n 0, 1) := by decide +kernel
theorem dX1_clear_35 : decode cX1_clear 35 = .ok (.getfield 21, 3) := by decide +kernel
theorem dX1_clear_38 : decode cX1_clear 38 = .ok (.iload_n 1, 1) := by decide +kernel
theorem dX1_clear_39 : decode cX1_clear 39 = .ok (.iconst 0, 1) := by decide +kernel
theorem dX1_clear_40 : decode cX1_clear 40 = .ok (.iastore, 1) := by decide +kernel
theorem dX1_clear_41 : decode cX1_clear 41 = .ok (.iinc 1 1, 3) := by decide +kernel
theorem dX1_clear_44 : decode cX1_clear 44 = .ok (.goto (-16), 3) := by decide +kernel
theorem dX1_clear_47 : decode cX1_clear 47 = .ok (.aload_n 0, 1) := by decide +kernel
theorem dX1_clear_48 : decode cX1_clear 48 = .ok (.getfield 27, 3) := by decide +kernel
theorem dX1_clear_51 : decode cX1_clear 51 = .ok (.invokevirtual 38, 3) := by decide +kernel
theorem dX1_clear_54 : decode cX1_clear 54 = .ok (.aload_n 0, 1) := by decide +kernel
theorem dX1_clear_55 : decode cX1_clear 55 = .ok (.iconst 3, 1) := by decide +kernel
theorem dX1_clear_56 : decode cX1_clear 56 = .ok (.putfield 41, 3) := by decide +kernel
theorem dX1_clear_59 : decode cX1_clear 59 = .ok (.aload_n 0, 1) := by decide +kernel
theorem dX1_clear_60 : decode cX1_clear 60 = .ok (.iconst 2, 1) := by decide +kernel
theorem dX1_clear_61 : decode cX1_clear 61 = .ok (.putfield 44, 3) := by decide +kernel
theorem dX1_clear_64 : decode cX1_clear 64 = .ok (.aload_n 0, 1) := by decide +kernel
theorem dX1_clear_65 : decode cX1_clear 65 = .ok (.bipush 10, 2) := by decide +kernel
theorem dX1_clear_67 : decode cX1_clear 67 = .ok (.putfield 47, 3) := by decide +kernel
theorem dX1_clear_70 : decode cX1_clear 70 = .ok (.return_, 1) := by decide +kernel
theorem dX1_addPeer_0 : decode cX1_addPeer 0 = .ok (.aload_n 0, 1) := by decide +kernel
theorem dX1_addPeer_1 : decode cX1_addPeer 1 = .ok (.getfield 34, 3) := by decide +kernel
theorem dX1_addPeer_4 : decode cX1_addPeer 4 = .ok (.bipush 8, 2) := by decide +kernel
theorem dX1_addPeer_6 : decode cX1_addPeer 6 = .ok (.if_icmp .ge 33, 3) := by decide +kernel
theorem dX1_addPeer_9 : decode cX1_addPeer 9 = .ok (.aload_n 0, 1) := by decide +kernel
theorem dX1_addPeer_10 : decode cX1_addPeer 10 = .ok (.getfield 9, 3) := by decide +kernel
theorem dX1_addPeer_13 : decode cX1_addPeer 13 = .ok (.aload_n 0, 1) := by decide +kernel
theorem dX1_addPeer_14 : decode cX1_addPeer 14 = .ok (.getfield 34, 3) := by decide +kernel
theorem dX1_addPeer_17 : decode cX1_addPeer 17 = .ok (.iload_n 1, 1) := by decide +kernel
theorem dX1_addPeer_18 : decode cX1_addPeer 18 = .ok (.iastore, 1) := by decide +kernel
theorem dX1_addPeer_19 : decode cX1_addPeer 19 = .ok (.aload_n 0, 1) := by decide +kernel
theorem dX1_addPeer_20 : decode cX1_addPeer 20 = .ok (.getfield 15, 3) := by decide +kernel
theorem dX1_addPeer_23 : decode cX1_addPeer 23 = .ok (.aload_n 0, 1) := by decide +kernel
theorem dX1_addPeer_24 : decode cX1_addPeer 24 = .ok (.getfield 34, 3) := by decide +kernel
theorem dX1_addPeer_27 : decode cX1_addPeer 27 = .ok (.iload_n 2, 1) := by decide +kernel
theorem dX1_addPeer_28 : decode cX1_addPeer 28 = .ok (.iastore, 1) := by decide +kernel
theorem dX1_addPeer_29 : decode cX1_addPeer 29 = .ok (.aload_n 0, 1) := by decide +kernel
theorem dX1_addPeer_30 : decode cX1_addPeer 30 = .ok (.dup, 1) := by decide +kernel
theorem dX1_addPeer_31 : decode cX1_addPeer 31 = .ok (.getfield 34, 3) := by decide +kernel
theorem dX1_addPeer_34 : decode cX1_addPeer 34 = .ok (.iconst 1, 1) := by decide +kernel
theorem dX1_addPeer_35 : decode cX1_addPeer 35 = .ok (.iadd, 1) := by decide +kernel
theorem dX1_addPeer_36 : decode cX1_addPeer 36 = .ok (.putfield 34, 3) := by decide +kernel
theorem dX1_addPeer_39 : decode cX1_addPeer 39 = .ok (.return_, 1) := by decide +kernel
theorem dX1_addLink_0 : decode cX1_addLink 0 = .ok (.aload_n 0, 1) := by decide +kernel
theorem dX1_addLink_1 : decode cX1_addLink 1 = .ok (.getfield 18, 3) := by decide +kernel
theorem dX1_addLink_4 : decode cX1_addLink 4 = .ok (.iload_n 1, 1) := by decide +kernel
theorem dX1_addLink_5 : decode cX1_addLink 5 = .ok (.bipush 8, 2) := by decide +kernel
theorem dX1_addLink_7 : decode cX1_addLink 7 = .ok (.imul, 1) := by decide +kernel
theorem dX1_addLink_8 : decode cX1_addLink 8 = .ok (.iload_n 2, 1) := by decide +kernel
theorem dX1_addLink_9 : decode cX1_addLink 9 = .ok (.iadd, 1) := by decide +kernel
theorem dX1_addLink_10 : decode cX1_addLink 10 = .ok (.iload_n 3, 1) := by decide +kernel
theorem dX1_addLink_11 : decode cX1_addLink 11 = .ok (.iastore, 1) := by decide +kernel
theorem dX1_addLink_12 : decode cX1_addLink 12 = .ok (.aload_n 0, 1) := by decide +kernel
theorem dX1_addLink_13 : decode cX1_addLink 13 = .ok (.getfield 18, 3) := by decide +kernel
theorem dX1_addLink_16 : decode cX1_addLink 16 = .ok (.iload_n 2, 1) := by decide +kernel
theorem dX1_addLink_17 : decode cX1_addLink 17 = .ok (.bipush 8, 2) := by decide +kernel
theorem dX1_addLink_19 : decode cX1_addLink 19 = .ok (.imul, 1) := by decide +kernel
theorem dX1_addLink_20 : decode cX1_addLink 20 = .ok (.iload_n 1, 1) := by decide +kernel
theorem dX1_addLink_21 : decode cX1_addLink 21 = .ok (.iadd, 1) := by decide +kernel
theorem dX1_addLink_22 : decode cX1_addLink 22 = .ok (.iload_n 3, 1) := by decide +kernel
theorem dX1_addLink_23 : decode cX1_addLink 23 = .ok (.iastore, 1) := by decide +kernel
theorem dX1_addLink_24 : decode cX1_addLink 24 = .ok (.return_, 1) := by decide +kernel
theorem dX1_addAcquaintance_0 : decode cX1_addAcquaintance 0 = .ok (.aload_n 0, 1) := by decide +kernel
theorem dX1_addAcquaintance_1 : decode cX1_addAcquaintance 1 = .ok (.getfield 21, 3) := by decide +kernel
theorem dX1_addAcquaintance_4 : decode cX1_addAcquaintance 4 = .ok (.iload_n 1, 1) := by decide +kernel
theorem dX1_addAcquaintance_5 : decode cX1_addAcquaintance 5 = .ok (.dup2, 1) := by decide +kernel
theorem dX1_addAcquaintance_6 : decode cX1_addAcquaintance 6 = .ok (.iaload, 1) := by decide +kernel
theorem dX1_addAcquaintance_7 : decode cX1_addAcquaintance 7 = .ok (.iconst 1, 1) := by decide +kernel
theorem dX1_addAcquaintance_8 : decode cX1_addAcquaintance 8 = .ok (.iload_n 2, 1) := by decide +kernel
theorem dX1_addAcquaintance_9 : decode cX1_addAcquaintance 9 = .ok (.ishl, 1) := by decide +kernel
theorem dX1_addAcquaintance_10 : decode cX1_addAcquaintance 10 = .ok (.ior, 1) := by decide +kernel
theorem dX1_addAcquaintance_11 : decode cX1_addAcquaintance 11 = .ok (.iastore, 1) := by decide +kernel
theorem dX1_addAcquaintance_12 : decode cX1_addAcquaintance 12 = .ok (.aload_n 0, 1) := by decide +kernel
theorem dX1_addAcquaintance_13 : decode cX1_addAcquaintance 13 = .ok (.getfield 21, 3) := by decide +kernel
theorem dX1_addAcquaintance_16 : decode cX1_addAcquaintance 16 = .ok (.iload_n 2, 1) := by decide +kernel
theorem dX1_addAcquaintance_17 : decode cX1_addAcquaintance 17 = .ok (.dup2, 1) := by decide +kernel
theorem dX1_addAcquaintance_18 : decode cX1_addAcquaintance 18 = .ok (.iaload, 1) := by decide +kernel
theorem dX1_addAcquaintance_19 : decode cX1_addAcquaintance 19 = .ok (.iconst 1, 1) := by decide +kernel
theorem dX1_addAcquaintance_20 : decode cX1_addAcquaintance 20 = .ok (.iload_n 1, 1) := by decide +kernel
theorem dX1_addAcquaintance_21 : decode cX1_addAcquaintance 21 = .ok (.ishl, 1) := by decide +kernel
theorem dX1_addAcquaintance_22 : decode cX1_addAcquaintance 22 = .ok (.ior, 1) := by decide +kernel
theorem dX1_addAcquaintance_23 : decode cX1_addAcquaintance 23 = .ok (.iastore, 1) := by decide +kernel
theorem dX1_addAcquaintance_24 : decode cX1_addAcquaintance 24 = .ok (.return_, 1) := by decide +kernel
theorem dX1_delayBetween_0 : decode cX1_delayBetween 0 = .ok (.aload_n 0, 1) := by decide +kernel
theorem dX1_delayBetween_1 : decode cX1_delayBetween 1 = .ok (.getfield 18, 3) := by decide +kernel
theorem dX1_delayBetween_4 : decode cX1_delayBetween 4 = .ok (.iload_n 1, 1) := by decide +kernel
theorem dX1_delayBetween_5 : decode cX1_delayBetween 5 = .ok (.bipush 8, 2) := by decide +kernel
theorem dX1_delayBetween_7 : decode cX1_delayBetween 7 = .ok (.imul, 1) := by decide +kernel
theorem dX1_delayBetween_8 : decode cX1_delayBetween 8 = .ok (.iload_n 2, 1) := by decide +kernel
theorem dX1_delayBetween_9 : decode cX1_delayBetween 9 = .ok (.iadd, 1) := by decide +kernel
theorem dX1_delayBetween_10 : decode cX1_delayBetween 10 = .ok (.iaload, 1) := by decide +kernel
theorem dX1_delayBetween_11 : decode cX1_delayBetween 11 = .ok (.ireturn, 1) := by decide +kernel
theorem dX1_delayAlong_0 : decode cX1_delayAlong 0 = .ok (.aload_n 1, 1) := by decide +kernel
theorem dX1_delayAlong_1 : decode cX1_delayAlong 1 = .ok (.getfield 50, 3) := by decide +kernel
theorem dX1_delayAlong_4 : decode cX1_delayAlong 4 = .ok (.bipush 100, 2) := by decide +kernel
theorem dX1_delayAlong_6 : decode cX1_delayAlong 6 = .ok (.if_icmp .ne 16, 3) := by decide +kernel
theorem dX1_delayAlong_9 : decode cX1_delayAlong 9 = .ok (.aload_n 0, 1) := by decide +kernel
theorem dX1_delayAlong_10 : decode cX1_delayAlong 10 = .ok (.aload_n 1, 1) := by decide +kernel
theorem dX1_delayAlong_11 : decode cX1_delayAlong 11 = .ok (.getfield 55, 3) := by decide +kernel
theorem dX1_delayAlong_14 : decode cX1_delayAlong 14 = .ok (.aload_n 1, 1) := by decide +kernel
theorem dX1_delayAlong_15 : decode cX1_delayAlong 15 = .ok (.getfield 58, 3) := by decide +kernel
theorem dX1_delayAlong_18 : decode cX1_delayAlong 18 = .ok (.invokevirtual 61, 3) := by decide +kernel
theorem dX1_delayAlong_21 : decode cX1_delayAlong 21 = .ok (.ireturn, 1) := by decide +kernel
theorem dX1_delayAlong_22 : decode cX1_delayAlong 22 = .ok (.aload_n 1, 1) := by decide +kernel
theorem dX1_delayAlong_23 : decode cX1_delayAlong 23 = .ok (.getfield 50, 3) := by decide +kernel
theorem dX1_delayAlong_26 : decode cX1_delayAlong 26 = .ok (.iconst (-1), 1) := by decide +kernel
theorem dX1_delayAlong_27 : decode cX1_delayAlong 27 = .ok (.if_icmp .ne 5, 3) := by decide +kernel
theorem dX1_delayAlong_30 : decode cX1_delayAlong 30 = .ok (.iconst 0, 1) := by decide +kernel
theorem dX1_delayAlong_31 : decode cX1_delayAlong 31 = .ok (.ireturn, 1) := by decide +kernel
theorem dX1_delayAlong_32 : decode cX1_delayAlong 32 = .ok (.aload_n 0, 1) := by decide +kernel
theorem dX1_delayAlong_33 : decode cX1_delayAlong 33 = .ok (.aload_n 1, 1) := by decide +kernel
theorem dX1_delayAlong_34 : decode cX1_delayAlong 34 = .ok (.getfield 55, 3) := by decide +kernel
theorem dX1_delayAlong_37 : decode cX1_delayAlong 37 = .ok (.aload_n 1, 1) := by decide +kernel
theorem dX1_delayAlong_38 : decode cX1_delayAlong 38 = .ok (.getfield 50, 3) := by decide +kernel
theorem dX1_delayAlong_41 : decode cX1_delayAlong 41 = .ok (.invokevirtual 61, 3) := by decide +kernel
theorem dX1_delayAlong_44 : decode cX1_delayAlong 44 = .ok (.aload_n 0, 1) := by decide +kernel
theorem dX1_delayAlong_45 : decode cX1_delayAlong 45 = .ok (.aload_n 1, 1) := by decide +kernel
theorem dX1_delayAlong_46 : decode cX1_delayAlong 46 = .ok (.getfield 50, 3) := by decide +kernel
theorem dX1_delayAlong_49 : decode cX1_delayAlong 49 = .ok (.aload_n 1, 1) := by decide +kernel
theorem dX1_delayAlong_50 : decode cX1_delayAlong 50 = .ok (.getfield 58, 3) := by decide +kernel
theorem dX1_delayAlong_53 : decode cX1_delayAlong 53 = .ok (.invokevirtual 61, 3) := by decide +kernel
theorem dX1_delayAlong_56 : decode cX1_delayAlong 56 = .ok (.iadd, 1) := by decide +kernel
theorem dX1_delayAlong_57 : decode cX1_delayAlong 57 = .ok (.ireturn, 1) := by decide +kernel
theorem dX1_zonesCrossed_0 : decode cX1_zonesCrossed 0 = .ok (.aload_n 0, 1) := by decide +kernel
theorem dX1_zonesCrossed_1 : decode cX1_zonesCrossed 1 = .ok (.getfield 15, 3) := by decide +kernel
theorem dX1_zonesCrossed_4 : decode cX1_zonesCrossed 4 = .ok (.iload_n 2, 1) := by decide +kernel
theorem dX1_zonesCrossed_5 : decode cX1_zonesCrossed 5 = .ok (.iaload, 1) := by decide +kernel
theorem dX1_zonesCrossed_6 : decode cX1_zonesCrossed 6 = .ok (.aload_n 0, 1) := by decide +kernel
theorem dX1_zonesCrossed_7 : decode cX1_zonesCrossed 7 = .ok (.getfield 15, 3) := by decide +kernel
theorem dX1_zonesCrossed_10 : decode cX1_zonesCrossed 10 = .ok (.iload_n 1, 1) := by decide +kernel
theorem dX1_zonesCrossed_11 : decode cX1_zonesCrossed 11 = .ok (.iaload, 1) := by decide +kernel
theorem dX1_zonesCrossed_12 : decode cX1_zonesCrossed 12 = .ok (.if_icmp .eq 7, 3) := by decide +kernel
theorem dX1_zonesCrossed_15 : decode cX1_zonesCrossed 15 = .ok (.iconst 1, 1) := by decide +kernel
theorem dX1_zonesCrossed_16 : decode cX1_zonesCrossed 16 = .ok (.goto 4, 3) := by decide +kernel
theorem dX1_zonesCrossed_19 : decode cX1_zonesCrossed 19 = .ok (.iconst 0, 1) := by decide +kernel
theorem dX1_zonesCrossed_20 : decode cX1_zonesCrossed 20 = .ok (.istore 4, 2) := by decide +kernel
theorem dX1_zonesCrossed_22 : decode cX1_zonesCrossed 22 = .ok (.aload_n 0, 1) := by decide +kernel
theorem dX1_zonesCrossed_23 : decode cX1_zonesCrossed 23 = .ok (.getfield 15, 3) := by decide +kernel
theorem dX1_zonesCrossed_26 : decode cX1_zonesCrossed 26 = .ok (.iload_n 3, 1) := by decide +kernel
theorem dX1_zonesCrossed_27 : decode cX1_zonesCrossed 27 = .ok (.iaload, 1) := by decide +kernel
theorem dX1_zonesCrossed_28 : decode cX1_zonesCrossed 28 = .ok (.aload_n 0, 1) := by decide +kernel
theorem dX1_zonesCrossed_29 : decode cX1_zonesCrossed 29 = .ok (.getfield 15, 3) := by decide +kernel
theorem dX1_zonesCrossed_32 : decode cX1_zonesCrossed 32 = .ok (.iload_n 1, 1) := by decide +kernel
theorem dX1_zonesCrossed_33 : decode cX1_zonesCrossed 33 = .ok (.iaload, 1) := by decide +kernel
theorem dX1_zonesCrossed_34 : decode cX1_zonesCrossed 34 = .ok (.if_icmp .eq 10, 3) := by decide +kernel
theorem dX1_zonesCrossed_37 : decode cX1_zonesCrossed 37 = .ok (.iload 4, 2) := by decide +kernel
theorem dX1_zonesCrossed_39 : decode cX1_zonesCrossed 39 = .ok (.iconst 1, 1) := by decide +kernel
theorem dX1_zonesCrossed_40 : decode cX1_zonesCrossed 40 = .ok (.iadd, 1) := by decide +kernel
theorem dX1_zonesCrossed_41 : decode cX1_zonesCrossed 41 = .ok (.goto 5, 3) := by decide +kernel
theorem dX1_zonesCrossed_44 : decode cX1_zonesCrossed 44 = .ok (.iload 4, 2) := by decide +kernel
theorem dX1_zonesCrossed_46 : decode cX1_zonesCrossed 46 = .ok (.ireturn, 1) := by decide +kernel
theorem dX2_init_0 : decode cX2_init 0 = .ok (.aload_n 0, 1) := by decide +kernel
theorem dX2_init_1 : decode cX2_init 1 = .ok (.invokespecial 3, 3) := by decide +kernel
theorem dX2_init_4 : decode cX2_init 4 = .ok (.aload_n 0, 1) := by decide +kernel
theorem dX2_init_5 : decode cX2_init 5 = .ok (.aload_n 1, 1) := by decide +kernel
theorem dX2_init_6 : decode cX2_init 6 = .ok (.putfield 9, 3) := by decide +kernel
theorem dX2_init_9 : decode cX2_init 9 = .ok (.aload_n 0, 1) := by decide +kernel
theorem dX2_init_10 : decode cX2_init 10 = .ok (.iload_n 2, 1) := by decide +kernel
theorem dX2_init_11 : decode cX2_init 11 = .ok (.putfield 15, 3) := by decide +kernel
theorem dX2_init_14 : decode cX2_init 14 = .ok (.aload_n 0, 1) := by decide +kernel
theorem dX2_init_15 : decode cX2_init 15 = .ok (.aload_n 3, 1) := by decide +kernel
theorem dX2_init_16 : decode cX2_init 16 = .ok (.putfield 19, 3) := by decide +kernel
theorem dX2_init_19 : decode cX2_init 19 = .ok (.aload_n 0, 1) := by decide +kernel
theorem dX2_init_20 : decode cX2_init 20 = .ok (.iconst (-1), 1) := by decide +kernel
theorem dX2_init_21 : decode cX2_init 21 = .ok (.putfield 23, 3) := by decide +kernel
theorem dX2_init_24 : decode cX2_init 24 = .ok (.return_, 1) := by decide +kernel
theorem dX2_readOverlay_0 : decode cX2_readOverlay 0 = .ok (.aload_n 0, 1) := by decide +kernel
theorem dX2_readOverlay_1 : decode cX2_readOverlay 1 = .ok (.getfield 19, 3) := by decide +kernel
theorem dX2_readOverlay_4 : decode cX2_readOverlay 4 = .ok (.invokevirtual 26, 3) := by decide +kernel
theorem dX2_readOverlay_7 : decode cX2_readOverlay 7 = .ok (.aload_n 0, 1) := by decide +kernel
theorem dX2_readOverlay_8 : decode cX2_readOverlay 8 = .ok (.invokevirtual 31, 3) := by decide +kernel
theorem dX2_readOverlay_11 : decode cX2_readOverlay 11 = .ok (.iconst 0, 1) := by decide +kernel
theorem dX2_readOverlay_12 : decode cX2_readOverlay 12 = .ok (.istore_n 1, 1) := by decide +kernel
theorem dX2_readOverlay_13 : decode cX2_readOverlay 13 = .ok (.iload_n 1, 1) := by decide +kernel
theorem dX2_readOverlay_14 : decode cX2_readOverlay 14 = .ok (.sipush 600, 3) := by decide +kernel
theorem dX2_readOverlay_17 : decode cX2_readOverlay 17 = .ok (.if_icmp .ge 30, 3) := by decide +kernel
theorem dX2_readOverlay_20 : decode cX2_readOverlay 20 = .ok (.aload_n 0, 1) := by decide +kernel
theorem dX2_readOverlay_21 : decode cX2_readOverlay 21 = .ok (.getfield 34, 3) := by decide +kernel
theorem dX2_readOverlay_24 : decode cX2_readOverlay 24 = .ok (.ifCond .eq 23, 3) := by decide +kernel
theorem dX2_readOverlay_27 : decode cX2_readOverlay 27 = .ok (.aload_n 0, 1) := by decide +kernel
theorem dX2_readOverlay_28 : decode cX2_readOverlay 28 = .ok (.invokevirtual 37, 3) := by decide +kernel
theorem dX2_readOverlay_31 : decode cX2_readOverlay 31 = .ok (.aload_n 0, 1) := by decide +kernel
theorem dX2_readOverlay_32 : decode cX2_readOverlay 32 = .ok (.bipush 59, 2) := by decide +kernel
theorem dX2_readOverlay_34 : decode cX2_readOverlay 34 = .ok (.invokevirtual 40, 3) := by decide +kernel
theorem dX2_readOverlay_37 : decode cX2_readOverlay 37 = .ok (.aload_n 0, 1) := by decide +kernel
theorem dX2_readOverlay_38 : decode cX2_readOverlay 38 = .ok (.invokevirtual 31, 3) := by decide +kernel
theorem dX2_readOverlay_41 : decode cX2_readOverlay 41 = .ok (.iinc 1 1, 3) := by decide +kernel
theorem dX2_readOverlay_44 : decode cX2_readOverlay 44 = .ok (.goto (-31), 3) := by decide +kernel
theorem dX2_readOverlay_47 : decode cX2_readOverlay 47 = .ok (.aload_n 0, 1) := by decide +kernel
theorem dX2_readOverlay_48 : decode cX2_readOverlay 48 = .ok (.getfield 44, 3) := by decide +kernel
theorem dX2_readOverlay_51 : decode cX2_readOverlay 51 = .ok (.ireturn, 1) := by decide +kernel
theorem dX2_readStatement_0 : decode cX2_readStatement 0 = .ok (.aload_n 0, 1) := by decide +kernel
theorem dX2_readStatement_1 : decode cX2_readStatement 1 = .ok (.ldc 47, 2) := by decide +kernel
theorem dX2_readStatement_3 : decode cX2_readStatement 3 = .ok (.invokevirtual 49, 3) := by decide +kernel
theorem dX2_readStatement_6 : decode cX2_readStatement 6 = .ok (.ifCond .eq 10, 3) := by decide +kernel
theorem dX2_readStatement_9 : decode cX2_readStatement 9 = .ok (.aload_n 0, 1) := by decide +kernel
theorem dX2_readStatement_10 : decode cX2_readStatement 10 = .ok (.invokevirtual 53, 3) := by decide +kernel
theorem dX2_readStatement_13 : decode cX2_readStatement 13 = .ok (.goto 160, 3) := by decide +kernel
theorem dX2_readStatement_16 : decode cX2_readStatement 16 = .ok (.aload_n 0, 1) := by decide +kernel
theorem dX2_readStatement_17 : decode cX2_readStatement 17 = .ok (.ldc 56, 2) := by decide +kernel
theorem dX2_readStatement_19 : decode cX2_readStatement 19 = .ok (.invokevirtual 49, 3) := by decide +kernel
theorem dX2_readStatement_22 : decode cX2_readStatement 22 = .ok (.ifCond .eq 10, 3) := by decide +kernel
theorem dX2_readStatement_25 : decode cX2_readStatement 25 = .ok (.aload_n 0, 1) := by decide +kernel
theorem dX2_readStatement_26 : decode cX2_readStatement 26 = .ok (.invokevirtual 58, 3) := by decide +kernel
theorem dX2_readStatement_29 : decode cX2_readStatement 29 = .ok (.goto 144, 3) := by decide +kernel
theorem dX2_readStatement_32 : decode cX2_readStatement 32 = .ok (.aload_n 0, 1) := by decide +kernel
theorem dX2_readStatement_33 : decode cX2_readStatement 33 = .ok (.ldc 61, 2) := by decide +kernel
theorem dX2_readStatement_35 : decode cX2_readStatement 35 = .ok (.invokevirtual 49, 3) := by decide +kernel
theorem dX2_readStatement_38 : decode cX2_readStatement 38 = .ok (.ifCond .eq 10, 3) := by decide +kernel
theorem dX2_readStatement_41 : decode cX2_readStatement 41 = .ok (.aload_n 0, 1) := by decide +kernel
theorem dX2_readStatement_42 : decode cX2_readStatement 42 = .ok (.invokevirtual 63, 3) := by decide +kernel
theorem dX2_readStatement_45 : decode cX2_readStatement 45 = .ok (.goto 128, 3) := by decide +kernel
theorem dX2_readStatement_48 : decode cX2_readStatement 48 = .ok (.aload_n 0, 1) := by decide +kernel
theorem dX2_readStatement_49 : decode cX2_readStatement 49 = .ok (.ldc 66, 2) := by decide +kernel
theorem dX2_readStatement_51 : decode cX2_readStatement 51 = .ok (.invokevirtual 49, 3) := by decide +kernel
theorem dX2_readStatement_54 : decode cX2_readStatement 54 = .ok (.ifCond .eq 29, 3) := by decide +kernel
theorem dX2_readStatement_57 : decode cX2_readStatement 57 = .ok (.aload_n 0, 1) := by decide +kernel
theorem dX2_readStatement_58 : decode cX2_readStatement 58 = .ok (.iconst 1, 1) := by decide +kernel
theorem dX2_readStatement_59 : decode cX2_readStatement 59 = .ok (.invokevirtual 68, 3) := by decide +kernel
theorem dX2_readStatement_62 : decode cX2_readStatement 62 = .ok (.ifCond .eq 111, 3) := by decide +kernel
theorem dX2_readStatement_65 : decode cX2_readStatement 65 = .ok (.aload_n 0, 1) := by decide +kernel
theorem dX2_readStatement_66 : decode cX2_readStatement 66 = .ok (.getfield 19, 3) := by decide +kernel
theorem dX2_readStatement_69 : decode cX2_readStatement 69 = .ok (.getfield 72, 3) := by decide +kernel
theorem dX2_readStatement_72 : decode cX2_readStatement 72 = .ok (.invokevirtual 75, 3) := by decide +kernel
theorem dX2_readStatement_75 : decode cX2_readStatement 75 = .ok (.aload_n 0, 1) := by decide +kernel
theorem dX2_readStatement_76 : decode cX2_readStatement 76 = .ok (.iconst 0, 1) := by decide +kernel
theorem dX2_readStatement_77 : decode cX2_readStatement 77 = .ok (.invokevirtual 78, 3) := by decide +kernel
theorem dX2_readStatement_80 : decode cX2_readStatement 80 = .ok (.goto 93, 3) := by decide +kernel
theorem dX2_readStatement_83 : decode cX2_readStatement 83 = .ok (.aload_n 0, 1) := by decide +kernel
theorem dX2_readStatement_84 : decode cX2_readStatement 84 = .ok (.ldc 81, 2) := by decide +kernel
theorem dX2_readStatement_86 : decode cX2_readStatement 86 = .ok (.invokevirtual 49, 3) := by decide +kernel
theorem dX2_readStatement_89 : decode cX2_readStatement 89 = .ok (.ifCond .eq 44, 3) := by decide +kernel
theorem dX2_readStatement_92 : decode cX2_readStatement 92 = .ok (.aload_n 0, 1) := by decide +kernel
theorem dX2_readStatement_93 : decode cX2_readStatement 93 = .ok (.iconst 2, 1) := by decide +kernel
theorem dX2_readStatement_94 : decode cX2_readStatement 94 = .ok (.invokevirtual 68, 3) := by decide +kernel
theorem dX2_readStatement_97 : decode cX2_readStatement 97 = .ok (.ifCond .eq 76, 3) := by decide +kernel
theorem dX2_readStatement_100 : decode cX2_readStatement 100 = .ok (.aload_n 0, 1) := by decide +kernel
theorem dX2_readStatement_101 : decode cX2_readStatement 101 = .ok (.getfield 19, 3) := by decide +kernel
theorem dX2_readStatement_104 : decode cX2_readStatement 104 = .ok (.aload_n 0, 1) := by decide +kernel
theorem dX2_readStatement_105 : decode cX2_readStatement 105 = .ok (.iconst 1, 1) := by decide +kernel
theorem dX2_readStatement_106 : decode cX2_readStatement 106 = .ok (.bipush 20, 2) := by decide +kernel
theorem dX2_readStatement_108 : decode cX2_readStatement 108 = .ok (.iconst (-1), 1) := by decide +kernel
theorem dX2_readStatement_109 : decode cX2_readStatement 109 = .ok (.invokevirtual 83, 3) := by decide +kernel
theorem dX2_readStatement_112 : decode cX2_readStatement 112 = .ok (.putfield 87, 3) := by decide +kernel
theorem dX2_readStatement_115 : decode cX2_readStatement 115 = .ok (.aload_n 0, 1) := by decide +kernel
theorem dX2_readStatement_116 : decode cX2_readStatement 116 = .ok (.getfield 19, 3) := by decide +kernel
theorem dX2_readStatement_119 : decode cX2_readStatement 119 = .ok (.aload_n 0, 1) := by decide +kernel
theorem dX2_readStatement_120 : decode cX2_readStatement 120 = .ok (.iconst 1, 1) := by decide +kernel
theorem dX2_readStatement_121 : decode cX2_readStatement 121 = .ok (.bipush 9, 2) := by decide +kernel
theorem dX2_readStatement_123 : decode cX2_readStatement 123 = .ok (.iconst (-1), 1) := by decide +kernel
theorem dX2_readStatement_124 : decode cX2_readStatement 124 = .ok (.invokevirtual 83, 3) := by decide +kernel
theorem dX2_readStatement_127 : decode cX2_readStatement 127 = .ok (.putfield 90, 3) := by decide +kernel
theorem dX2_readStatement_130 : decode cX2_readStatement 130 = .ok (.goto 43, 3) := by decide +kernel
theorem dX2_readStatement_133 : decode cX2_readStatement 133 = .ok (.aload_n 0, 1) := by decide +kernel
theorem dX2_readStatement_134 : decode cX2_readStatement 134 = .ok (.ldc 93, 2) := by decide +kernel
theorem dX2_readStatement_136 : decode cX2_readStatement 136 = .ok (.invokevirtual 49, 3) := by decide +kernel
theorem dX2_readStatement_139 : decode cX2_readStatement 139 = .ok (.ifCond .eq 29, 3) := by decide +kernel
theorem dX2_readStatement_142 : decode cX2_readStatement 142 = .ok (.aload_n 0, 1) := by decide +kernel
theorem dX2_readStatement_143 : decode cX2_readStatement 143 = .ok (.iconst 4, 1) := by decide +kernel
theorem dX2_readStatement_144 : decode cX2_readStatement 144 = .ok (.invokevirtual 68, 3) := by decide +kernel
theorem dX2_readStatement_147 : decode cX2_readStatement 147 = .ok (.ifCond .eq 26, 3) := by decide +kernel
theorem dX2_readStatement_150 : decode cX2_readStatement 150 = .ok (.aload_n 0, 1) := by decide +kernel
theorem dX2_readStatement_151 : decode cX2_readStatement 151 = .ok (.getfield 19, 3) := by decide +kernel
theorem dX2_readStatement_154 : decode cX2_readStatement 154 = .ok (.aload_n 0, 1) := by decide +kernel
theorem dX2_readStatement_155 : decode cX2_readStatement 155 = .ok (.iconst 1, 1) := by decide +kernel
theorem dX2_readStatement_156 : decode cX2_readStatement 156 = .ok (.bipush 99, 2) := by decide +kernel
theorem dX2_readStatement_158 : decode cX2_readStatement 158 = .ok (.iconst (-1), 1) := by decide +kernel
theorem dX2_readStatement_159 : decode cX2_readStatement 159 = .ok (.invokevirtual 83, 3) := by decide +kernel
theorem dX2_readStatement_162 : decode cX2_readStatement 162 = .ok (.putfield 95, 3) := by decide +kernel
theorem dX2_readStatement_165 : decode cX2_readStatement 165 = .ok (.goto 8, 3) := by decide +kernel
theorem dX2_readStatement_168 : decode cX2_readStatement 168 = .ok (.aload_n 0, 1) := by decide +kernel
theorem dX2_readStatement_169 : decode cX2_readStatement 169 = .ok (.iconst 1, 1) := by decide +kernel
theorem dX2_readStatement_170 : decode cX2_readStatement 170 = .ok (.invokevirtual 98, 3) := by decide +kernel
theorem dX2_readStatement_173 : decode cX2_readStatement 173 = .ok (.return_, 1) := by decide +kernel
theorem dX2_readPeer_0 : decode cX2_readPeer 0 = .ok (.aload_n 0, 1) := by decide +kernel
theorem dX2_readPeer_1 : decode cX2_readPeer 1 = .ok (.getfield 19, 3) := by decide +kernel
theorem dX2_readPeer_4 : decode cX2_readPeer 4 = .ok (.getfield 101, 3) := by decide +kernel
theorem dX2_readPeer_7 : decode cX2_readPeer 7 = .ok (.bipush 8, 2) := by decide +kernel
theorem dX2_readPeer_9 : decode cX2_readPeer 9 = .ok (.if_icmp .lt 9, 3) := by decide +kernel
theorem dX2_readPeer_12 : decode cX2_readPeer 12 = .ok (.aload_n 0, 1) := by decide +kernel
theorem dX2_readPeer_13 : decode cX2_readPeer 13 = .ok (.iconst 4, 1) := by decide +kernel
theorem dX2_readPeer_14 : decode cX2_readPeer 14 = .ok (.invokevirtual 98, 3) := by decide +kernel
theorem dX2_readPeer_17 : decode cX2_readPeer 17 = .ok (.return_, 1) := by decide +kernel
theorem dX2_readPeer_18 : decode cX2_readPeer 18 = .ok (.aload_n 0, 1) := by decide +kernel
theorem dX2_readPeer_19 : decode cX2_readPeer 19 = .ok (.invokevirtual 31, 3) := by decide +kernel
theorem dX2_readPeer_22 : decode cX2_readPeer 22 = .ok (.aload_n 0, 1) := by decide +kernel
theorem dX2_readPeer_23 : decode cX2_readPeer 23 = .ok (.iconst 0, 1) := by decide +kernel
theorem dX2_readPeer_24 : decode cX2_readPeer 24 = .ok (.bipush 9, 2) := by decide +kernel
theorem dX2_readPeer_26 : decode cX2_readPeer 26 = .ok (.iconst (-1), 1) := by decide +kernel
theorem dX2_readPeer_27 : decode cX2_readPeer 27 = .ok (.invokevirtual 83, 3) := by decide +kernel
theorem dX2_readPeer_30 : decode cX2_readPeer 30 = .ok (.istore_n 1, 1) := by decide +kernel
theorem dX2_readPeer_31 : decode cX2_readPeer 31 = .ok (.aload_n 0, 1) := by decide +kernel
theorem dX2_readPeer_32 : decode cX2_readPeer 32 = .ok (.iconst 0, 1) := by decide +kernel
theorem dX2_readPeer_33 : decode cX2_readPeer 33 = .ok (.bipush 9, 2) := by decide +kernel
theorem dX2_readPeer_35 : decode cX2_readPeer 35 = .ok (.iconst (-1), 1) := by decide +kernel
theorem dX2_readPeer_36 : decode cX2_readPeer 36 = .ok (.invokevirtual 83, 3) := by decide +kernel
theorem dX2_readPeer_39 : decode cX2_readPeer 39 = .ok (.istore_n 2, 1) := by decide +kernel
theorem dX2_readPeer_40 : decode cX2_readPeer 40 = .ok (.aload_n 0, 1) := by decide +kernel
theorem dX2_readPeer_41 : decode cX2_readPeer 41 = .ok (.getfield 44, 3) := by decide +kernel
theorem dX2_readPeer_44 : decode cX2_readPeer 44 = .ok (.ifCond .ne 12, 3) := by decide +kernel
theorem dX2_readPeer_47 : decode cX2_readPeer 47 = .ok (.aload_n 0, 1) := by decide +kernel
theorem dX2_readPeer_48 : decode cX2_readPeer 48 = .ok (.getfield 19, 3) := by decide +kernel
theorem dX2_readPeer_51 : decode cX2_readPeer 51 = .ok (.iload_n 1, 1) := by decide +kernel
theorem dX2_readPeer_52 : decode cX2_readPeer 52 = .ok (.iload_n 2, 1) := by decide +kernel
theorem dX2_readPeer_53 : decode cX2_readPeer 53 = .ok (.invokevirtual 104, 3) := by decide +kernel
theorem dX2_readPeer_56 : decode cX2_readPeer 56 = .ok (.return_, 1) := by decide +kernel
theorem dX2_readLink_0 : decode cX2_readLink 0 = .ok (.aload_n 0, 1) := by decide +kernel
theorem dX2_readLink_1 : decode cX2_readLink 1 = .ok (.invokevirtual 31, 3) := by decide +kernel
theorem dX2_readLink_4 : decode cX2_readLink 4 = .ok (.aload_n 0, 1) := by decide +kernel
theorem dX2_readLink_5 : decode cX2_readLink 5 = .ok (.iconst 0, 1) := by decide +kernel
theorem dX2_readLink_6 : decode cX2_readLink 6 = .ok (.aload_n 0, 1) := by decide +kernel
theorem dX2_readLink_7 : decode cX2_readLink 7 = .ok (.getfield 19, 3) := by decide +kernel
theorem dX2_readLink_10 : decode cX2_readLink 10 = .ok (.getfield 101, 3) := by decide +kernel
theorem dX2_readLink_13 : decode cX2_readLink 13 = .ok (.iconst 1, 1) := by decide +kernel
theorem dX2_readLink_14 : decode cX2_readLink 14 = .ok (.isub, 1) := by decide +kernel
theorem dX2_readLink_15 : decode cX2_readLink 15 = .ok (.iconst (-1), 1) := by decide +kernel
theorem dX2_readLink_16 : decode cX2_readLink 16 = .ok (.invokevirtual 83, 3) := by decide +kernel
theorem dX2_readLink_19 : decode cX2_readLink 19 = .ok (.istore_n 1, 1) := by decide +kernel
theorem dX2_readLink_20 : decode cX2_readLink 20 = .ok (.aload_n 0, 1) := by decide +kernel
theorem dX2_readLink_21 : decode cX2_readLink 21 = .ok (.iconst 0, 1) := by decide +kernel
theorem dX2_readLink_22 : decode cX2_readLink 22 = .ok (.aload_n 0, 1) := by decide +kernel
theorem dX2_readLink_23 : decode cX2_readLink 23 = .ok (.getfield 19, 3) := by decide +kernel
theorem dX2_readLink_26 : decode cX2_readLink 26 = .ok (.getfield 101, 3) := by decide +kernel
theorem dX2_readLink_29 : decode cX2_readLink 29 = .ok (.iconst 1, 1) := by decide +kernel
theorem dX2_readLink_30 : decode cX2_readLink 30 = .ok (.isub, 1) := by decide +kernel
theorem dX2_readLink_31 : decode cX2_readLink 31 = .ok (.iload_n 1, 1) := by decide +kernel
theorem dX2_readLink_32 : decode cX2_readLink 32 = .ok (.invokevirtual 83, 3) := by decide +kernel
theorem dX2_readLink_35 : decode cX2_readLink 35 = .ok (.istore_n 2, 1) := by decide +kernel
theorem dX2_readLink_36 : decode cX2_readLink 36 = .ok (.aload_n 0, 1) := by decide +kernel
theorem dX2_readLink_37 : decode cX2_readLink 37 = .ok (.iconst 1, 1) := by decide +kernel
theorem dX2_readLink_38 : decode cX2_readLink 38 = .ok (.bipush 99, 2) := by decide +kernel
theorem dX2_readLink_40 : decode cX2_readLink 40 = .ok (.iconst (-1), 1) := by decide +kernel
theorem dX2_readLink_41 : decode cX2_readLink 41 = .ok (.invokevirtual 83, 3) := by decide +kernel
theorem dX2_readLink_44 : decode cX2_readLink 44 = .ok (.istore_n 3, 1) := by decide +kernel
theorem dX2_readLink_45 : decode cX2_readLink 45 = .ok (.aload_n 0, 1) := by decide +kernel
theorem dX2_readLink_46 : decode cX2_readLink 46 = .ok (.getfield 44, 3) := by decide +kernel
theorem dX2_readLink_49 : decode cX2_readLink 49 = .ok (.ifCond .ne 13, 3) := by decide +kernel
theorem dX2_readLink_52 : decode cX2_readLink 52 = .ok (.aload_n 0, 1) := by decide +kernel
theorem dX2_readLink_53 : decode cX2_readLink 53 = .ok (.getfield 19, 3) := by decide +kernel
theorem dX2_readLink_56 : decode cX2_readLink 56 = .ok (.iload_n 1, 1) := by decide +kernel
theorem dX2_readLink_57 : decode cX2_readLink 57 = .ok (.iload_n 2, 1) := by decide +kernel
theorem dX2_readLink_58 : decode cX2_readLink 58 = .ok (.iload_n 3, 1) := by decide +kernel
theorem dX2_readLink_59 : decode cX2_readLink 59 = .ok (.invokevirtual 108, 3) := by decide +kernel
theorem dX2_readLink_62 : decode cX2_readLink 62 = .ok (.return_, 1) := by decide +kernel
theorem dX2_readKnows_0 : decode cX2_readKnows 0 = .ok (.aload_n 0, 1) := by decide +kernel
theorem dX2_readKnows_1 : decode cX2_readKnows 1 = .ok (.invokevirtual 31, 3) := by decide +kernel
theorem dX2_readKnows_4 : decode cX2_readKnows 4 = .ok (.aload_n 0, 1) := by decide +kernel
theorem dX2_readKnows_5 : decode cX2_readKnows 5 = .ok (.iconst 0, 1) := by decide +kernel
theorem dX2_readKnows_6 : decode cX2_readKnows 6 = .ok (.aload_n 0, 1) := by decide +kernel
theorem dX2_readKnows_7 : decode cX2_readKnows 7 = .ok (.getfield 19, 3) := by decide +kernel
theorem dX2_readKnows_10 : decode cX2_readKnows 10 = .ok (.getfield 101, 3) := by decide +kernel
theorem dX2_readKnows_13 : decode cX2_readKnows 13 = .ok (.iconst 1, 1) := by decide +kernel
theorem dX2_readKnows_14 : decode cX2_readKnows 14 = .ok (.isub, 1) := by decide +kernel
theorem dX2_readKnows_15 : decode cX2_readKnows 15 = .ok (.iconst (-1), 1) := by decide +kernel
theorem dX2_readKnows_16 : decode cX2_readKnows 16 = .ok (.invokevirtual 83, 3) := by decide +kernel
theorem dX2_readKnows_19 : decode cX2_readKnows 19 = .ok (.istore_n 1, 1) := by decide +kernel
theorem dX2_readKnows_20 : decode cX2_readKnows 20 = .ok (.aload_n 0, 1) := by decide +kernel
theorem dX2_readKnows_21 : decode cX2_readKnows 21 = .ok (.iconst 0, 1) := by decide +kernel
theorem dX2_readKnows_22 : decode cX2_readKnows 22 = .ok (.aload_n 0, 1) := by decide +kernel
theorem dX2_readKnows_23 : decode cX2_readKnows 23 = .ok (.getfield 19, 3) := by decide +kernel
theorem dX2_readKnows_26 : decode cX2_readKnows 26 = .ok (.getfield 101, 3) := by decide +kernel
theorem dX2_readKnows_29 : decode cX2_readKnows 29 = .ok (.iconst 1, 1) := by decide +kernel
theorem dX2_readKnows_30 : decode cX2_readKnows 30 = .ok (.isub, 1) := by decide +kernel
theorem dX2_readKnows_31 : decode cX2_readKnows 31 = .ok (.iload_n 1, 1) := by decide +kernel
theorem dX2_readKnows_32 : decode cX2_readKnows 32 = .ok (.invokevirtual 83, 3) := by decide +kernel
theorem dX2_readKnows_35 : decode cX2_readKnows 35 = .ok (.istore_n 2, 1) := by decide +kernel
theorem dX2_readKnows_36 : decode cX2_readKnows 36 = .ok (.aload_n 0, 1) := by decide +kernel
theorem dX2_readKnows_37 : decode cX2_readKnows 37 = .ok (.getfield 44, 3) := by decide +kernel
theorem dX2_readKnows_40 : decode cX2_readKnows 40 = .ok (.ifCond .ne 12, 3) := by decide +kernel
theorem dX2_readKnows_43 : decode cX2_readKnows 43 = .ok (.aload_n 0, 1) := by decide +kernel
theorem dX2_readKnows_44 : decode cX2_readKnows 44 = .ok (.getfield 19, 3) := by decide +kernel
theorem dX2_readKnows_47 : decode cX2_readKnows 47 = .ok (.iload_n 1, 1) := by decide +kernel
theorem dX2_readKnows_48 : decode cX2_readKnows 48 = .ok (.iload_n 2, 1) := by decide +kernel
theorem dX2_readKnows_49 : decode cX2_readKnows 49 = .ok (.invokevirtual 112, 3) := by decide +kernel
theorem dX2_readKnows_52 : decode cX2_readKnows 52 = .ok (.return_, 1) := by decide +kernel
theorem dX2_beginsOnly_0 : decode cX2_beginsOnly 0 = .ok (.aload_n 0, 1) := by decide +kernel
theorem dX2_beginsOnly_1 : decode cX2_beginsOnly 1 = .ok (.getfield 115, 3) := by decide +kernel
theorem dX2_beginsOnly_4 : decode cX2_beginsOnly 4 = .ok (.iload_n 1, 1) := by decide +kernel
theorem dX2_beginsOnly_5 : decode cX2_beginsOnly 5 = .ok (.iand, 1) := by decide +kernel
theorem dX2_beginsOnly_6 : decode cX2_beginsOnly 6 = .ok (.ifCond .eq 10, 3) := by decide +kernel
theorem dX2_beginsOnly_9 : decode cX2_beginsOnly 9 = .ok (.aload_n 0, 1) := by decide +kernel
theorem dX2_beginsOnly_10 : decode cX2_beginsOnly 10 = .ok (.iconst 2, 1) := by decide +kernel
theorem dX2_beginsOnly_11 : decode cX2_beginsOnly 11 = .ok (.invokevirtual 98, 3) := by decide +kernel
theorem dX2_beginsOnly_14 : decode cX2_beginsOnly 14 = .ok (.iconst 0, 1) := by decide +kernel
theorem dX2_beginsOnly_15 : decode cX2_beginsOnly 15 = .ok (.ireturn, 1) := by decide +kernel
theorem dX2_beginsOnly_16 : decode cX2_beginsOnly 16 = .ok (.aload_n 0, 1) := by decide +kernel
theorem dX2_beginsOnly_17 : decode cX2_beginsOnly 17 = .ok (.dup, 1) := by decide +kernel
theorem dX2_beginsOnly_18 : decode cX2_beginsOnly 18 = .ok (.getfield 115, 3) := by decide +kernel
theorem dX2_beginsOnly_21 : decode cX2_beginsOnly 21 = .ok (.iload_n 1, 1) := by decide +kernel
theorem dX2_beginsOnly_22 : decode cX2_beginsOnly 22 = .ok (.ior, 1) := by decide +kernel
theorem dX2_beginsOnly_23 : decode cX2_beginsOnly 23 = .ok (.putfield 115, 3) := by decide +kernel
theorem dX2_beginsOnly_26 : decode cX2_beginsOnly 26 = .ok (.aload_n 0, 1) := by decide +kernel
theorem dX2_beginsOnly_27 : decode cX2_beginsOnly 27 = .ok (.invokevirtual 31, 3) := by decide +kernel
theorem dX2_beginsOnly_30 : decode cX2_beginsOnly 30 = .ok (.iconst 1, 1) := by decide +kernel
theorem dX2_beginsOnly_31 : decode cX2_beginsOnly 31 = .ok (.ireturn, 1) := by decide +kernel
theorem dX2_readNumber_0 : decode cX2_readNumber 0 = .ok (.aload_n 0, 1) := by decide +kernel
theorem dX2_readNumber_1 : decode cX2_readNumber 1 = .ok (.getfield 34, 3) := by decide +kernel
theorem dX2_readNumber_4 : decode cX2_readNumber 4 = .ok (.iconst 2, 1) := by decide +kernel
theorem dX2_readNumber_5 : decode cX2_readNumber 5 = .ok (.if_icmp .eq 10, 3) := by decide +kernel
theorem dX2_readNumber_8 : decode cX2_readNumber 8 = .ok (.aload_n 0, 1) := by decide +kernel
theorem dX2_readNumber_9 : decode cX2_readNumber 9 = .ok (.iconst 1, 1) := by decide +kernel
theorem dX2_readNumber_10 : decode cX2_readNumber 10 = .ok (.invokevirtual 98, 3) := by decide +kernel
theorem dX2_readNumber_13 : decode cX2_readNumber 13 = .ok (.iconst 0, 1) := by decide +kernel
theorem dX2_readNumber_14 : decode cX2_readNumber 14 = .ok (.ireturn, 1) := by decide +kernel
theorem dX2_readNumber_15 : decode cX2_readNumber 15 = .ok (.aload_n 0, 1) := by decide +kernel
theorem dX2_readNumber_16 : decode cX2_readNumber 16 = .ok (.getfield 118, 3) := by decide +kernel
theorem dX2_readNumber_19 : decode cX2_readNumber 19 = .ok (.istore 4, 2) := by decide +kernel
theorem dX2_readNumber_21 : decode cX2_readNumber 21 = .ok (.iload 4, 2) := by decide +kernel
theorem dX2_readNumber_23 : decode cX2_readNumber 23 = .ok (.iload_n 1, 1) := by decide +kernel
theorem dX2_readNumber_24 : decode cX2_readNumber 24 = .ok (.if_icmp .lt 9, 3) := by decide +kernel
theorem dX2_readNumber_27 : decode cX2_readNumber 27 = .ok (.iload 4, 2) := by decide +kernel
theorem dX2_readNumber_29 : decode cX2_readNumber 29 = .ok (.iload_n 2, 1) := by decide +kernel
theorem dX2_readNumber_30 : decode cX2_readNumber 30 = .ok (.if_icmp .le 10, 3) := by decide +kernel
theorem dX2_readNumber_33 : decode cX2_readNumber 33 = .ok (.aload_n 0, 1) := by decide +kernel
theorem dX2_readNumber_34 : decode cX2_readNumber 34 = .ok (.iconst 3, 1) := by decide +kernel
theorem dX2_readNumber_35 : decode cX2_readNumber 35 = .ok (.invokevirtual 98, 3) := by decide +kernel
theorem dX2_readNumber_38 : decode cX2_readNumber 38 = .ok (.iconst 0, 1) := by decide +kernel
theorem dX2_readNumber_39 : decode cX2_readNumber 39 = .ok (.ireturn, 1) := by decide +kernel
theorem dX2_readNumber_40 : decode cX2_readNumber 40 = .ok (.iload 4, 2) := by decide +kernel
theorem dX2_readNumber_42 : decode cX2_readNumber 42 = .ok (.iload_n 3, 1) := by decide +kernel
theorem dX2_readNumber_43 : decode cX2_readNumber 43 = .ok (.if_icmp .ne 10, 3) := by decide +kernel
theorem dX2_readNumber_46 : decode cX2_readNumber 46 = .ok (.aload_n 0, 1) := by decide +kernel
theorem dX2_readNumber_47 : decode cX2_readNumber 47 = .ok (.iconst 5, 1) := by decide +kernel
theorem dX2_readNumber_48 : decode cX2_readNumber 48 = .ok (.invokevirtual 98, 3) := by decide +kernel
theorem dX2_readNumber_51 : decode cX2_readNumber 51 = .ok (.iconst 0, 1) := by decide +kernel
theorem dX2_readNumber_52 : decode cX2_readNumber 52 = .ok (.ireturn, 1) := by decide +kernel
theorem dX2_readNumber_53 : decode cX2_readNumber 53 = .ok (.aload_n 0, 1) := by decide +kernel
theorem dX2_readNumber_54 : decode cX2_readNumber 54 = .ok (.invokevirtual 31, 3) := by decide +kernel
theorem dX2_readNumber_57 : decode cX2_readNumber 57 = .ok (.iload 4, 2) := by decide +kernel
theorem dX2_readNumber_59 : decode cX2_readNumber 59 = .ok (.ireturn, 1) := by decide +kernel
theorem dX2_readSum_0 : decode cX2_readSum 0 = .ok (.aload_n 0, 1) := by decide +kernel
theorem dX2_readSum_1 : decode cX2_readSum 1 = .ok (.iload_n 1, 1) := by decide +kernel
theorem dX2_readSum_2 : decode cX2_readSum 2 = .ok (.invokevirtual 121, 3) := by decide +kernel
theorem dX2_readSum_5 : decode cX2_readSum 5 = .ok (.iconst 0, 1) := by decide +kernel
theorem dX2_readSum_6 : decode cX2_readSum 6 = .ok (.istore_n 2, 1) := by decide +kernel
theorem dX2_readSum_7 : decode cX2_readSum 7 = .ok (.iload_n 2, 1) := by decide +kernel
theorem dX2_readSum_8 : decode cX2_readSum 8 = .ok (.sipush 600, 3) := by decide +kernel
theorem dX2_readSum_11 : decode cX2_readSum 11 = .ok (.if_icmp .ge 64, 3) := by decide +kernel
theorem dX2_readSum_14 : decode cX2_readSum 14 = .ok (.aload_n 0, 1) := by decide +kernel
theorem dX2_readSum_15 : decode cX2_readSum 15 = .ok (.getfield 34, 3) := by decide +kernel
theorem dX2_readSum_18 : decode cX2_readSum 18 = .ok (.bipush 43, 2) := by decide +kernel
theorem dX2_readSum_20 : decode cX2_readSum 20 = .ok (.if_icmp .eq 12, 3) := by decide +kernel
theorem dX2_readSum_23 : decode cX2_readSum 23 = .ok (.aload_n 0, 1) := by decide +kernel
theorem dX2_readSum_24 : decode cX2_readSum 24 = .ok (.getfield 34, 3) := by decide +kernel
theorem dX2_readSum_27 : decode cX2_readSum 27 = .ok (.bipush 45, 2) := by decide +kernel
theorem dX2_readSum_29 : decode cX2_readSum 29 = .ok (.if_icmp .ne 46, 3) := by decide +kernel
theorem dX2_readSum_32 : decode cX2_readSum 32 = .ok (.aload_n 0, 1) := by decide +kernel
theorem dX2_readSum_33 : decode cX2_readSum 33 = .ok (.getfield 34, 3) := by decide +kernel
theorem dX2_readSum_36 : decode cX2_readSum 36 = .ok (.bipush 43, 2) := by decide +kernel
theorem dX2_readSum_38 : decode cX2_readSum 38 = .ok (.if_icmp .ne 8, 3) := by decide +kernel
theorem dX2_readSum_41 : decode cX2_readSum 41 = .ok (.bipush (-6), 2) := by decide +kernel
theorem dX2_readSum_43 : decode cX2_readSum 43 = .ok (.goto 5, 3) := by decide +kernel
theorem dX2_readSum_46 : decode cX2_readSum 46 = .ok (.bipush (-7), 2) := by decide +kernel
theorem dX2_readSum_48 : decode cX2_readSum 48 = .ok (.istore_n 3, 1) := by decide +kernel
theorem dX2_readSum_49 : decode cX2_readSum 49 = .ok (.aload_n 0, 1) := by decide +kernel
theorem dX2_readSum_50 : decode cX2_readSum 50 = .ok (.invokevirtual 31, 3) := by decide +kernel
theorem dX2_readSum_53 : decode cX2_readSum 53 = .ok (.aload_n 0, 1) := by decide +kernel
theorem dX2_readSum_54 : decode cX2_readSum 54 = .ok (.iload_n 1, 1) := by decide +kernel
theorem dX2_readSum_55 : decode cX2_readSum 55 = .ok (.invokevirtual 121, 3) := by decide +kernel
theorem dX2_readSum_58 : decode cX2_readSum 58 = .ok (.aload_n 0, 1) := by decide +kernel
theorem dX2_readSum_59 : decode cX2_readSum 59 = .ok (.getfield 19, 3) := by decide +kernel
theorem dX2_readSum_62 : decode cX2_readSum 62 = .ok (.getfield 72, 3) := by decide +kernel
theorem dX2_readSum_65 : decode cX2_readSum 65 = .ok (.iload_n 3, 1) := by decide +kernel
theorem dX2_readSum_66 : decode cX2_readSum 66 = .ok (.invokevirtual 124, 3) := by decide +kernel
theorem dX2_readSum_69 : decode cX2_readSum 69 = .ok (.iinc 2 1, 3) := by decide +kernel
theorem dX2_readSum_72 : decode cX2_readSum 72 = .ok (.goto (-65), 3) := by decide +kernel
theorem dX2_readSum_75 : decode cX2_readSum 75 = .ok (.return_, 1) := by decide +kernel
theorem dX2_readTerm_0 : decode cX2_readTerm 0 = .ok (.aload_n 0, 1) := by decide +kernel
theorem dX2_readTerm_1 : decode cX2_readTerm 1 = .ok (.iload_n 1, 1) := by decide +kernel
theorem dX2_readTerm_2 : decode cX2_readTerm 2 = .ok (.invokevirtual 127, 3) := by decide +kernel
theorem dX2_readTerm_5 : decode cX2_readTerm 5 = .ok (.iconst 0, 1) := by decide +kernel
theorem dX2_readTerm_6 : decode cX2_readTerm 6 = .ok (.istore_n 2, 1) := by decide +kernel
theorem dX2_readTerm_7 : decode cX2_readTerm 7 = .ok (.iload_n 2, 1) := by decide +kernel
theorem dX2_readTerm_8 : decode cX2_readTerm 8 = .ok (.sipush 600, 3) := by decide +kernel
theorem dX2_readTerm_11 : decode cX2_readTerm 11 = .ok (.if_icmp .ge 64, 3) := by decide +kernel
theorem dX2_readTerm_14 : decode cX2_readTerm 14 = .ok (.aload_n 0, 1) := by decide +kernel
theorem dX2_readTerm_15 : decode cX2_readTerm 15 = .ok (.getfield 34, 3) := by decide +kernel
theorem dX2_readTerm_18 : decode cX2_readTerm 18 = .ok (.bipush 42, 2) := by decide +kernel
theorem dX2_readTerm_20 : decode cX2_readTerm 20 = .ok (.if_icmp .eq 12, 3) := by decide +kernel
theorem dX2_readTerm_23 : decode cX2_readTerm 23 = .ok (.aload_n 0, 1) := by decide +kernel
theorem dX2_readTerm_24 : decode cX2_readTerm 24 = .ok (.getfield 34, 3) := by decide +kernel
theorem dX2_readTerm_27 : decode cX2_readTerm 27 = .ok (.bipush 47, 2) := by decide +kernel
theorem dX2_readTerm_29 : decode cX2_readTerm 29 = .ok (.if_icmp .ne 46, 3) := by decide +kernel
theorem dX2_readTerm_32 : decode cX2_readTerm 32 = .ok (.aload_n 0, 1) := by decide +kernel
theorem dX2_readTerm_33 : decode cX2_readTerm 33 = .ok (.getfield 34, 3) := by decide +kernel
theorem dX2_readTerm_36 : decode cX2_readTerm 36 = .ok (.bipush 42, 2) := by decide +kernel
theorem dX2_readTerm_38 : decode cX2_readTerm 38 = .ok (.if_icmp .ne 8, 3) := by decide +kernel
theorem dX2_readTerm_41 : decode cX2_readTerm 41 = .ok (.bipush (-8), 2) := by decide +kernel
theorem dX2_readTerm_43 : decode cX2_readTerm 43 = .ok (.goto 5, 3) := by decide +kernel
theorem dX2_readTerm_46 : decode cX2_readTerm 46 = .ok (.bipush (-9), 2) := by decide +kernel
theorem dX2_readTerm_48 : decode cX2_readTerm 48 = .ok (.istore_n 3, 1) := by decide +kernel
theorem dX2_readTerm_49 : decode cX2_readTerm 49 = .ok (.aload_n 0, 1) := by decide +kernel
theorem dX2_readTerm_50 : decode cX2_readTerm 50 = .ok (.invokevirtual 31, 3) := by decide +kernel
theorem dX2_readTerm_53 : decode cX2_readTerm 53 = .ok (.aload_n 0, 1) := by decide +kernel
theorem dX2_readTerm_54 : decode cX2_readTerm 54 = .ok (.iload_n 1, 1) := by decide +kernel
theorem dX2_readTerm_55 : decode cX2_readTerm 55 = .ok (.invokevirtual 127, 3) := by decide +kernel
theorem dX2_readTerm_58 : decode cX2_readTerm 58 = .ok (.aload_n 0, 1) := by decide +kernel
theorem dX2_readTerm_59 : decode cX2_readTerm 59 = .ok (.getfield 19, 3) := by decide +kernel
theorem dX2_readTerm_62 : decode cX2_readTerm 62 = .ok (.getfield 72, 3) := by decide +kernel
theorem dX2_readTerm_65 : decode cX2_readTerm 65 = .ok (.iload_n 3, 1) := by decide +kernel
theorem dX2_readTerm_66 : decode cX2_readTerm 66 = .ok (.invokevirtual 124, 3) := by decide +kernel
theorem dX2_readTerm_69 : decode cX2_readTerm 69 = .ok (.iinc 2 1, 3) := by decide +kernel
theorem dX2_readTerm_72 : decode cX2_readTerm 72 = .ok (.goto (-65), 3) := by decide +kernel
theorem dX2_readTerm_75 : decode cX2_readTerm 75 = .ok (.return_, 1) := by decide +kernel
theorem dX2_readFactor_0 : decode cX2_readFactor 0 = .ok (.aload_n 0, 1) := by decide +kernel
theorem dX2_readFactor_1 : decode cX2_readFactor 1 = .ok (.getfield 34, 3) := by decide +kernel
theorem dX2_readFactor_4 : decode cX2_readFactor 4 = .ok (.iconst 2, 1) := by decide +kernel
theorem dX2_readFactor_5 : decode cX2_readFactor 5 = .ok (.if_icmp .ne 24, 3) := by decide +kernel
theorem dX2_readFactor_8 : decode cX2_readFactor 8 = .ok (.aload_n 0, 1) := by decide +kernel
theorem dX2_readFactor_9 : decode cX2_readFactor 9 = .ok (.getfield 19, 3) := by decide +kernel
theorem dX2_readFactor_12 : decode cX2_readFactor 12 = .ok (.getfield 72, 3) := by decide +kernel
theorem dX2_readFactor_15 : decode cX2_readFactor 15 = .ok (.aload_n 0, 1) := by decide +kernel
theorem dX2_readFactor_16 : decode cX2_readFactor 16 = .ok (.getfield 118, 3) := by decide +kernel
theorem dX2_readFactor_19 : decode cX2_readFactor 19 = .ok (.invokevirtual 124, 3) := by decide +kernel
theorem dX2_readFactor_22 : decode cX2_readFactor 22 = .ok (.aload_n 0, 1) := by decide +kernel
theorem dX2_readFactor_23 : decode cX2_readFactor 23 = .ok (.invokevirtual 31, 3) := by decide +kernel
theorem dX2_readFactor_26 : decode cX2_readFactor 26 = .ok (.goto 73, 3) := by decide +kernel
theorem dX2_readFactor_29 : decode cX2_readFactor 29 = .ok (.aload_n 0, 1) := by decide +kernel
theorem dX2_readFactor_30 : decode cX2_readFactor 30 = .ok (.getfield 34, 3) := by decide +kernel
theorem dX2_readFactor_33 : decode cX2_readFactor 33 = .ok (.iconst 1, 1) := by decide +kernel
theorem dX2_readFactor_34 : decode cX2_readFactor 34 = .ok (.if_icmp .ne 14, 3) := by decide +kernel
theorem dX2_readFactor_37 : decode cX2_readFactor 37 = .ok (.aload_n 0, 1) := by decide +kernel
theorem dX2_readFactor_38 : decode cX2_readFactor 38 = .ok (.invokevirtual 130, 3) := by decide +kernel
theorem dX2_readFactor_41 : decode cX2_readFactor 41 = .ok (.aload_n 0, 1) := by decide +kernel
theorem dX2_readFactor_42 : decode cX2_readFactor 42 = .ok (.invokevirtual 31, 3) := by decide +kernel
theorem dX2_readFactor_45 : decode cX2_readFactor 45 = .ok (.goto 54, 3) := by decide +kernel
theorem dX2_readFactor_48 : decode cX2_readFactor 48 = .ok (.aload_n 0, 1) := by decide +kernel
theorem dX2_readFactor_49 : decode cX2_readFactor 49 = .ok (.getfield 34, 3) := by decide +kernel
theorem dX2_readFactor_52 : decode cX2_readFactor 52 = .ok (.bipush 40, 2) := by decide +kernel
theorem dX2_readFactor_54 : decode cX2_readFactor 54 = .ok (.if_icmp .eq 11, 3) := by decide +kernel
theorem dX2_readFactor_57 : decode cX2_readFactor 57 = .ok (.aload_n 0, 1) := by decide +kernel
theorem dX2_readFactor_58 : decode cX2_readFactor 58 = .ok (.iconst 1, 1) := by decide +kernel
theorem dX2_readFactor_59 : decode cX2_readFactor 59 = .ok (.invokevirtual 98, 3) := by decide +kernel
theorem dX2_readFactor_62 : decode cX2_readFactor 62 = .ok (.goto 37, 3) := by decide +kernel
theorem dX2_readFactor_65 : decode cX2_readFactor 65 = .ok (.iload_n 1, 1) := by decide +kernel
theorem dX2_readFactor_66 : decode cX2_readFactor 66 = .ok (.iconst 5, 1) := by decide +kernel
theorem dX2_readFactor_67 : decode cX2_readFactor 67 = .ok (.if_icmp .lt 11, 3) := by decide +kernel
theorem dX2_readFactor_70 : decode cX2_readFactor 70 = .ok (.aload_n 0, 1) := by decide +kernel
theorem dX2_readFactor_71 : decode cX2_readFactor 71 = .ok (.iconst 4, 1) := by decide +kernel
theorem dX2_readFactor_72 : decode cX2_readFactor 72 = .ok (.invokevirtual 98, 3) := by decide +kernel
theorem dX2_readFactor_75 : decode cX2_readFactor 75 = .ok (.goto 24, 3) := by decide +kernel
theorem dX2_readFactor_78 : decode cX2_readFactor 78 = .ok (.aload_n 0, 1) := by decide +kernel
theorem dX2_readFactor_79 : decode cX2_readFactor 79 = .ok (.invokevirtual 31, 3) := by decide +kernel
theorem dX2_readFactor_82 : decode cX2_readFactor 82 = .ok (.aload_n 0, 1) := by decide +kernel
theorem dX2_readFactor_83 : decode cX2_readFactor 83 = .ok (.iload_n 1, 1) := by decide +kernel
theorem dX2_readFactor_84 : decode cX2_readFactor 84 = .ok (.iconst 1, 1) := by decide +kernel
theorem dX2_readFactor_85 : decode cX2_readFactor 85 = .ok (.iadd, 1) := by decide +kernel
theorem dX2_readFactor_86 : decode cX2_readFactor 86 = .ok (.invokevirtual 78, 3) := by decide +kernel
theorem dX2_readFactor_89 : decode cX2_readFactor 89 = .ok (.aload_n 0, 1) := by decide +kernel
theorem dX2_readFactor_90 : decode cX2_readFactor 90 = .ok (.bipush 41, 2) := by decide +kernel
theorem dX2_readFactor_92 : decode cX2_readFactor 92 = .ok (.invokevirtual 40, 3) := by decide +kernel
theorem dX2_readFactor_95 : decode cX2_readFactor 95 = .ok (.aload_n 0, 1) := by decide +kernel
theorem dX2_readFactor_96 : decode cX2_readFactor 96 = .ok (.invokevirtual 31, 3) := by decide +kernel
theorem dX2_readFactor_99 : decode cX2_readFactor 99 = .ok (.return_, 1) := by decide +kernel
theorem dX2_readInput_0 : decode cX2_readInput 0 = .ok (.aload_n 0, 1) := by decide +kernel
theorem dX2_readInput_1 : decode cX2_readInput 1 = .ok (.ldc 133, 2) := by decide +kernel
theorem dX2_readInput_3 : decode cX2_readInput 3 = .ok (.invokevirtual 49, 3) := by decide +kernel
theorem dX2_readInput_6 : decode cX2_readInput 6 = .ok (.ifCond .eq 17, 3) := by decide +kernel
theorem dX2_readInput_9 : decode cX2_readInput 9 = .ok (.aload_n 0, 1) := by decide +kernel
theorem dX2_readInput_10 : decode cX2_readInput 10 = .ok (.getfield 19, 3) := by decide +kernel
theorem dX2_readInput_13 : decode cX2_readInput 13 = .ok (.getfield 72, 3) := by decide +kernel
theorem dX2_readInput_16 : decode cX2_readInput 16 = .ok (.iconst (-1), 1) := by decide +kernel
theorem dX2_readInput_17 : decode cX2_readInput 17 = .ok (.invokevirtual 124, 3) := by decide +kernel
theorem dX2_readInput_20 : decode cX2_readInput 20 = .ok (.goto 104, 3) := by decide +kernel
theorem dX2_readInput_23 : decode cX2_readInput 23 = .ok (.aload_n 0, 1) := by decide +kernel
theorem dX2_readInput_24 : decode cX2_readInput 24 = .ok (.ldc 135, 2) := by decide +kernel
theorem dX2_readInput_26 : decode cX2_readInput 26 = .ok (.invokevirtual 49, 3) := by decide +kernel
theorem dX2_readInput_29 : decode cX2_readInput 29 = .ok (.ifCond .eq 18, 3) := by decide +kernel
theorem dX2_readInput_32 : decode cX2_readInput 32 = .ok (.aload_n 0, 1) := by decide +kernel
theorem dX2_readInput_33 : decode cX2_readInput 33 = .ok (.getfield 19, 3) := by decide +kernel
theorem dX2_readInput_36 : decode cX2_readInput 36 = .ok (.getfield 72, 3) := by decide +kernel
theorem dX2_readInput_39 : decode cX2_readInput 39 = .ok (.bipush (-2), 2) := by decide +kernel
theorem dX2_readInput_41 : decode cX2_readInput 41 = .ok (.invokevirtual 124, 3) := by decide +kernel
theorem dX2_readInput_44 : decode cX2_readInput 44 = .ok (.goto 80, 3) := by decide +kernel
theorem dX2_readInput_47 : decode cX2_readInput 47 = .ok (.aload_n 0, 1) := by decide +kernel
theorem dX2_readInput_48 : decode cX2_readInput 48 = .ok (.ldc 137, 2) := by decide +kernel
theorem dX2_readInput_50 : decode cX2_readInput 50 = .ok (.invokevirtual 49, 3) := by decide +kernel
theorem dX2_readInput_53 : decode cX2_readInput 53 = .ok (.ifCond .eq 18, 3) := by decide +kernel
theorem dX2_readInput_56 : decode cX2_readInput 56 = .ok (.aload_n 0, 1) := by decide +kernel
theorem dX2_readInput_57 : decode cX2_readInput 57 = .ok (.getfield 19, 3) := by decide +kernel
theorem dX2_readInput_60 : decode cX2_readInput 60 = .ok (.getfield 72, 3) := by decide +kernel
theorem dX2_readInput_63 : decode cX2_readInput 63 = .ok (.bipush (-3), 2) := by decide +kernel
theorem dX2_readInput_65 : decode cX2_readInput 65 = .ok (.invokevirtual 124, 3) := by decide +kernel
theorem dX2_readInput_68 : decode cX2_readInput 68 = .ok (.goto 56, 3) := by decide +kernel
theorem dX2_readInput_71 : decode cX2_readInput 71 = .ok (.aload_n 0, 1) := by decide +kernel
theorem dX2_readInput_72 : decode cX2_readInput 72 = .ok (.ldc 139, 2) := by decide +kernel
theorem dX2_readInput_74 : decode cX2_readInput 74 = .ok (.invokevirtual 49, 3) := by decide +kernel
theorem dX2_readInput_77 : decode cX2_readInput 77 = .ok (.ifCond .eq 18, 3) := by decide +kernel
theorem dX2_readInput_80 : decode cX2_readInput 80 = .ok (.aload_n 0, 1) := by decide +kernel
theorem dX2_readInput_81 : decode cX2_readInput 81 = .ok (.getfield 19, 3) := by decide +kernel
theorem dX2_readInput_84 : decode cX2_readInput 84 = .ok (.getfield 72, 3) := by decide +kernel
theorem dX2_readInput_87 : decode cX2_readInput 87 = .ok (.bipush (-4), 2) := by decide +kernel
theorem dX2_readInput_89 : decode cX2_readInput 89 = .ok (.invokevirtual 124, 3) := by decide +kernel
theorem dX2_readInput_92 : decode cX2_readInput 92 = .ok (.goto 32, 3) := by decide +kernel
theorem dX2_readInput_95 : decode cX2_readInput 95 = .ok (.aload_n 0, 1) := by decide +kernel
theorem dX2_readInput_96 : decode cX2_readInput 96 = .ok (.ldc 141, 2) := by decide +kernel
theorem dX2_readInput_98 : decode cX2_readInput 98 = .ok (.invokevirtual 49, 3) := by decide +kernel
theorem dX2_readInput_101 : decode cX2_readInput 101 = .ok (.ifCond .eq 18, 3) := by decide +kernel
theorem dX2_readInput_104 : decode cX2_readInput 104 = .ok (.aload_n 0, 1) := by decide +kernel
theorem dX2_readInput_105 : decode cX2_readInput 105 = .ok (.getfield 19, 3) := by decide +kernel
theorem dX2_readInput_108 : decode cX2_readInput 108 = .ok (.getfield 72, 3) := by decide +kernel
theorem dX2_readInput_111 : decode cX2_readInput 111 = .ok (.bipush (-5), 2) := by decide +kernel
theorem dX2_readInput_113 : decode cX2_readInput 113 = .ok (.invokevirtual 124, 3) := by decide +kernel
theorem dX2_readInput_116 : decode cX2_readInput 116 = .ok (.goto 8, 3) := by decide +kernel
theorem dX2_readInput_119 : decode cX2_readInput 119 = .ok (.aload_n 0, 1) := by decide +kernel
theorem dX2_readInput_120 : decode cX2_readInput 120 = .ok (.iconst 1, 1) := by decide +kernel
theorem dX2_readInput_121 : decode cX2_readInput 121 = .ok (.invokevirtual 98, 3) := by decide +kernel
theorem dX2_readInput_124 : decode cX2_readInput 124 = .ok (.return_, 1) := by decide +kernel
theorem dX2_require_0 : decode cX2_require 0 = .ok (.aload_n 0, 1) := by decide +kernel
theorem dX2_require_1 : decode cX2_require 1 = .ok (.getfield 34, 3) := by decide +kernel
theorem dX2_require_4 : decode cX2_require 4 = .ok (.iload_n 1, 1) := by decide +kernel
theorem dX2_require_5 : decode cX2_require 5 = .ok (.if_icmp .eq 8, 3) := by decide +kernel
theorem dX2_require_8 : decode cX2_require 8 = .ok (.aload_n 0, 1) := by decide +kernel
theorem dX2_require_9 : decode cX2_require 9 = .ok (.iconst 1, 1) := by decide +kernel
theorem dX2_require_10 : decode cX2_require 10 = .ok (.invokevirtual 98, 3) := by decide +kernel
theorem dX2_require_13 : decode cX2_require 13 = .ok (.return_, 1) := by decide +kernel
theorem dX2_wordIs_0 : decode cX2_wordIs 0 = .ok (.aload_n 0, 1) := by decide +kernel
theorem dX2_wordIs_1 : decode cX2_wordIs 1 = .ok (.getfield 34, 3) := by decide +kernel
theorem dX2_wordIs_4 : decode cX2_wordIs 4 = .ok (.iconst 1, 1) := by decide +kernel
theorem dX2_wordIs_5 : decode cX2_wordIs 5 = .ok (.if_icmp .ne 19, 3) := by decide +kernel
theorem dX2_wordIs_8 : decode cX2_wordIs 8 = .ok (.aload_n 0, 1) := by decide +kernel
theorem dX2_wordIs_9 : decode cX2_wordIs 9 = .ok (.getfield 143, 3) := by decide +kernel
theorem dX2_wordIs_12 : decode cX2_wordIs 12 = .ok (.aload_n 0, 1) := by decide +kernel
theorem dX2_wordIs_13 : decode cX2_wordIs 13 = .ok (.getfield 146, 3) := by decide +kernel
theorem dX2_wordIs_16 : decode cX2_wordIs 16 = .ok (.isub, 1) := by decide +kernel
theorem dX2_wordIs_17 : decode cX2_wordIs 17 = .ok (.aload_n 1, 1) := by decide +kernel
theorem dX2_wordIs_18 : decode cX2_wordIs 18 = .ok (.invokevirtual 149, 3) := by decide +kernel
theorem dX2_wordIs_21 : decode cX2_wordIs 21 = .ok (.if_icmp .eq 5, 3) := by decide +kernel
theorem dX2_wordIs_24 : decode cX2_wordIs 24 = .ok (.iconst 0, 1) := by decide +kernel
theorem dX2_wordIs_25 : decode cX2_wordIs 25 = .ok (.ireturn, 1) := by decide +kernel
theorem dX2_wordIs_26 : decode cX2_wordIs 26 = .ok (.iconst 0, 1) := by decide +kernel
theorem dX2_wordIs_27 : decode cX2_wordIs 27 = .ok (.istore_n 2, 1) := by decide +kernel
theorem dX2_wordIs_28 : decode cX2_wordIs 28 = .ok (.iload_n 2, 1) := by decide +kernel
theorem dX2_wordIs_29 : decode cX2_wordIs 29 = .ok (.aload_n 1, 1) := by decide +kernel
theorem dX2_wordIs_30 : decode cX2_wordIs 30 = .ok (.invokevirtual 149, 3) := by decide +kernel
theorem dX2_wordIs_33 : decode cX2_wordIs 33 = .ok (.if_icmp .ge 30, 3) := by decide +kernel
theorem dX2_wordIs_36 : decode cX2_wordIs 36 = .ok (.aload_n 0, 1) := by decide +kernel
theorem dX2_wordIs_37 : decode cX2_wordIs 37 = .ok (.getfield 9, 3) := by decide +kernel
theorem dX2_wordIs_40 : decode cX2_wordIs 40 = .ok (.aload_n 0, 1) := by decide +kernel
theorem dX2_wordIs_41 : decode cX2_wordIs 41 = .ok (.getfield 146, 3) := by decide +kernel
theorem dX2_wordIs_44 : decode cX2_wordIs 44 = .ok (.iload_n 2, 1) := by decide +kernel
theorem dX2_wordIs_45 : decode cX2_wordIs 45 = .ok (.iadd, 1) := by decide +kernel
theorem dX2_wordIs_46 : decode cX2_wordIs 46 = .ok (.baload, 1) := by decide +kernel
theorem dX2_wordIs_47 : decode cX2_wordIs 47 = .ok (.aload_n 1, 1) := by decide +kernel
theorem dX2_wordIs_48 : decode cX2_wordIs 48 = .ok (.iload_n 2, 1) := by decide +kernel
theorem dX2_wordIs_49 : decode cX2_wordIs 49 = .ok (.invokevirtual 154, 3) := by decide +kernel
theorem dX2_wordIs_52 : decode cX2_wordIs 52 = .ok (.if_icmp .eq 5, 3) := by decide +kernel
theorem dX2_wordIs_55 : decode cX2_wordIs 55 = .ok (.iconst 0, 1) := by decide +kernel
theorem dX2_wordIs_56 : decode cX2_wordIs 56 = .ok (.ireturn, 1) := by decide +kernel
theorem dX2_wordIs_57 : decode cX2_wordIs 57 = .ok (.iinc 2 1, 3) := by decide +kernel
theorem dX2_wordIs_60 : decode cX2_wordIs 60 = .ok (.goto (-32), 3) := by decide +kernel
theorem dX2_wordIs_63 : decode cX2_wordIs 63 = .ok (.iconst 1, 1) := by decide +kernel
theorem dX2_wordIs_64 : decode cX2_wordIs 64 = .ok (.ireturn, 1) := by decide +kernel
theorem dX2_fail_0 : decode cX2_fail 0 = .ok (.aload_n 0, 1) := by decide +kernel
theorem dX2_fail_1 : decode cX2_fail 1 = .ok (.getfield 44, 3) := by decide +kernel
theorem dX2_fail_4 : decode cX2_fail 4 = .ok (.ifCond .ne 16, 3) := by decide +kernel
theorem dX2_fail_7 : decode cX2_fail 7 = .ok (.aload_n 0, 1) := by decide +kernel
theorem dX2_fail_8 : decode cX2_fail 8 = .ok (.iload_n 1, 1) := by decide +kernel
theorem dX2_fail_9 : decode cX2_fail 9 = .ok (.putfield 44, 3) := by decide +kernel
theorem dX2_fail_12 : decode cX2_fail 12 = .ok (.aload_n 0, 1) := by decide +kernel
theorem dX2_fail_13 : decode cX2_fail 13 = .ok (.aload_n 0, 1) := by decide +kernel
theorem dX2_fail_14 : decode cX2_fail 14 = .ok (.getfield 146, 3) := by decide +kernel
theorem dX2_fail_17 : decode cX2_fail 17 = .ok (.putfield 23, 3) := by decide +kernel
theorem dX2_fail_20 : decode cX2_fail 20 = .ok (.aload_n 0, 1) := by decide +kernel
theorem dX2_fail_21 : decode cX2_fail 21 = .ok (.iconst 0, 1) := by decide +kernel
theorem dX2_fail_22 : decode cX2_fail 22 = .ok (.putfield 34, 3) := by decide +kernel
theorem dX2_fail_25 : decode cX2_fail 25 = .ok (.return_, 1) := by decide +kernel
theorem dX2_advance_0 : decode cX2_advance 0 = .ok (.aload_n 0, 1) := by decide +kernel
theorem dX2_advance_1 : decode cX2_advance 1 = .ok (.getfield 44, 3) := by decide +kernel
theorem dX2_advance_4 : decode cX2_advance 4 = .ok (.ifCond .eq 4, 3) := by decide +kernel
theorem dX2_advance_7 : decode cX2_advance 7 = .ok (.return_, 1) := by decide +kernel
theorem dX2_advance_8 : decode cX2_advance 8 = .ok (.aload_n 0, 1) := by decide +kernel
theorem dX2_advance_9 : decode cX2_advance 9 = .ok (.getfield 143, 3) := by decide +kernel
theorem dX2_advance_12 : decode cX2_advance 12 = .ok (.aload_n 0, 1) := by decide +kernel
theorem dX2_advance_13 : decode cX2_advance 13 = .ok (.getfield 15, 3) := by decide +kernel
theorem dX2_advance_16 : decode cX2_advance 16 = .ok (.if_icmp .ge 44, 3) := by decide +kernel
theorem dX2_advance_19 : decode cX2_advance 19 = .ok (.aload_n 0, 1) := by decide +kernel
theorem dX2_advance_20 : decode cX2_advance 20 = .ok (.getfield 9, 3) := by decide +kernel
theorem dX2_advance_23 : decode cX2_advance 23 = .ok (.aload_n 0, 1) := by decide +kernel
theorem dX2_advance_24 : decode cX2_advance 24 = .ok (.getfield 143, 3) := by decide +kernel
theorem dX2_advance_27 : decode cX2_advance 27 = .ok (.baload, 1) := by decide +kernel
theorem dX2_advance_28 : decode cX2_advance 28 = .ok (.bipush 32, 2) := by decide +kernel
theorem dX2_advance_30 : decode cX2_advance 30 = .ok (.if_icmp .eq 17, 3) := by decide +kernel
theorem dX2_advance_33 : decode cX2_advance 33 = .ok (.aload_n 0, 1) := by decide +kernel
theorem dX2_advance_34 : decode cX2_advance 34 = .ok (.getfield 9, 3) := by decide +kernel
theorem dX2_advance_37 : decode cX2_advance 37 = .ok (.aload_n 0, 1) := by decide +kernel
theorem dX2_advance_38 : decode cX2_advance 38 = .ok (.getfield 143, 3) := by decide +kernel
theorem dX2_advance_41 : decode cX2_advance 41 = .ok (.baload, 1) := by decide +kernel
theorem dX2_advance_42 : decode cX2_advance 42 = .ok (.bipush 10, 2) := by decide +kernel
theorem dX2_advance_44 : decode cX2_advance 44 = .ok (.if_icmp .ne 16, 3) := by decide +kernel
theorem dX2_advance_47 : decode cX2_advance 47 = .ok (.aload_n 0, 1) := by decide +kernel
theorem dX2_advance_48 : decode cX2_advance 48 = .ok (.dup, 1) := by decide +kernel
theorem dX2_advance_49 : decode cX2_advance 49 = .ok (.getfield 143, 3) := by decide +kernel
theorem dX2_advance_52 : decode cX2_advance 52 = .ok (.iconst 1, 1) := by decide +kernel
theorem dX2_advance_53 : decode cX2_advance 53 = .ok (.iadd, 1) := by decide +kernel
theorem dX2_advance_54 : decode cX2_advance 54 = .ok (.putfield 143, 3) := by decide +kernel
theorem dX2_advance_57 : decode cX2_advance 57 = .ok (.goto (-49), 3) := by decide +kernel
theorem dX2_advance_60 : decode cX2_advance 60 = .ok (.aload_n 0, 1) := by decide +kernel
theorem dX2_advance_61 : decode cX2_advance 61 = .ok (.aload_n 0, 1) := by decide +kernel
theorem dX2_advance_62 : decode cX2_advance 62 = .ok (.getfield 143, 3) := by decide +kernel
theorem dX2_advance_65 : decode cX2_advance 65 = .ok (.putfield 146, 3) := by decide +kernel
theorem dX2_advance_68 : decode cX2_advance 68 = .ok (.aload_n 0, 1) := by decide +kernel
theorem dX2_advance_69 : decode cX2_advance 69 = .ok (.getfield 143, 3) := by decide +kernel
theorem dX2_advance_72 : decode cX2_advance 72 = .ok (.aload_n 0, 1) := by decide +kernel
theorem dX2_advance_73 : decode cX2_advance 73 = .ok (.getfield 15, 3) := by decide +kernel
theorem dX2_advance_76 : decode cX2_advance 76 = .ok (.if_icmp .lt 11, 3) := by decide +kernel
theorem dX2_advance_79 : decode cX2_advance 79 = .ok (.aload_n 0, 1) := by decide +kernel
theorem dX2_advance_80 : decode cX2_advance 80 = .ok (.iconst 0, 1) := by decide +kernel
theorem dX2_advance_81 : decode cX2_advance 81 = .ok (.putfield 34, 3) := by decide +kernel
theorem dX2_advance_84 : decode cX2_advance 84 = .ok (.goto 77, 3) := by decide +kernel
theorem dX2_advance_87 : decode cX2_advance 87 = .ok (.aload_n 0, 1) := by decide +kernel
theorem dX2_advance_88 : decode cX2_advance 88 = .ok (.getfield 9, 3) := by decide +kernel
theorem dX2_advance_91 : decode cX2_advance 91 = .ok (.aload_n 0, 1) := by decide +kernel
theorem dX2_advance_92 : decode cX2_advance 92 = .ok (.getfield 143, 3) := by decide +kernel
theorem dX2_advance_95 : decode cX2_advance 95 = .ok (.baload, 1) := by decide +kernel
theorem dX2_advance_96 : decode cX2_advance 96 = .ok (.bipush 97, 2) := by decide +kernel
theorem dX2_advance_98 : decode cX2_advance 98 = .ok (.if_icmp .lt 24, 3) := by decide +kernel
theorem dX2_advance_101 : decode cX2_advance 101 = .ok (.aload_n 0, 1) := by decide +kernel
theorem dX2_advance_102 : decode cX2_advance 102 = .ok (.getfield 9, 3) := by decide +kernel
theorem dX2_advance_105 : decode cX2_advance 105 = .ok (.aload_n 0, 1) := by decide +kernel
theorem dX2_advance_106 : decode cX2_advance 106 = .ok (.getfield 143, 3) := by decide +kernel
theorem dX2_advance_109 : decode cX2_advance 109 = .ok (.baload, 1) := by decide +kernel
theorem dX2_advance_110 : decode cX2_advance 110 = .ok (.bipush 122, 2) := by decide +kernel
theorem dX2_advance_112 : decode cX2_advance 112 = .ok (.if_icmp .gt 10, 3) := by decide +kernel
theorem dX2_advance_115 : decode cX2_advance 115 = .ok (.aload_n 0, 1) := by decide +kernel
theorem dX2_advance_116 : decode cX2_advance 116 = .ok (.invokevirtual 158, 3) := by decide +kernel
theorem dX2_advance_119 : decode cX2_advance 119 = .ok (.goto 42, 3) := by decide +kernel
theorem dX2_advance_122 : decode cX2_advance 122 = .ok (.aload_n 0, 1) := by decide +kernel
theorem dX2_advance_123 : decode cX2_advance 123 = .ok (.getfield 9, 3) := by decide +kernel
theorem dX2_advance_126 : decode cX2_advance 126 = .ok (.aload_n 0, 1) := by decide +kernel
theorem dX2_advance_127 : decode cX2_advance 127 = .ok (.getfield 143, 3) := by decide +kernel
theorem dX2_advance_130 : decode cX2_advance 130 = .ok (.baload, 1) := by decide +kernel
theorem dX2_advance_131 : decode cX2_advance 131 = .ok (.bipush 48, 2) := by decide +kernel
theorem dX2_advance_133 : decode cX2_advance 133 = .ok (.if_icmp .lt 24, 3) := by decide +kernel
theorem dX2_advance_136 : decode cX2_advance 136 = .ok (.aload_n 0, 1) := by decide +kernel
theorem dX2_advance_137 : decode cX2_advance 137 = .ok (.getfield 9, 3) := by decide +kernel
theorem dX2_advance_140 : decode cX2_advance 140 = .ok (.aload_n 0, 1) := by decide +kernel
theorem dX2_advance_141 : decode cX2_advance 141 = .ok (.getfield 143, 3) := by decide +kernel
theorem dX2_advance_144 : decode cX2_advance 144 = .ok (.baload, 1) := by decide +kernel
theorem dX2_advance_145 : decode cX2_advance 145 = .ok (.bipush 57, 2) := by decide +kernel
theorem dX2_advance_147 : decode cX2_advance 147 = .ok (.if_icmp .gt 10, 3) := by decide +kernel
theorem dX2_advance_150 : decode cX2_advance 150 = .ok (.aload_n 0, 1) := by decide +kernel
theorem dX2_advance_151 : decode cX2_advance 151 = .ok (.invokevirtual 161, 3) := by decide +kernel
theorem dX2_advance_154 : decode cX2_advance 154 = .ok (.goto 7, 3) := by decide +kernel
theorem dX2_advance_157 : decode cX2_advance 157 = .ok (.aload_n 0, 1) := by decide +kernel
theorem dX2_advance_158 : decode cX2_advance 158 = .ok (.invokevirtual 164, 3) := by decide +kernel
theorem dX2_advance_161 : decode cX2_advance 161 = .ok (.return_, 1) := by decide +kernel
theorem dX2_takeWord_0 : decode cX2_takeWord 0 = .ok (.aload_n 0, 1) := by decide +kernel
theorem dX2_takeWord_1 : decode cX2_takeWord 1 = .ok (.getfield 143, 3) := by decide +kernel
theorem dX2_takeWord_4 : decode cX2_takeWord 4 = .ok (.aload_n 0, 1) := by decide +kernel
theorem dX2_takeWord_5 : decode cX2_takeWord 5 = .ok (.getfield 15, 3) := by decide +kernel
theorem dX2_takeWord_8 : decode cX2_takeWord 8 = .ok (.if_icmp .ge 44, 3) := by decide +kernel
theorem dX2_takeWord_11 : decode cX2_takeWord 11 = .ok (.aload_n 0, 1) := by decide +kernel
theorem dX2_takeWord_12 : decode cX2_takeWord 12 = .ok (.getfield 9, 3) := by decide +kernel
theorem dX2_takeWord_15 : decode cX2_takeWord 15 = .ok (.aload_n 0, 1) := by decide +kernel
theorem dX2_takeWord_16 : decode cX2_takeWord 16 = .ok (.getfield 143, 3) := by decide +kernel
theorem dX2_takeWord_19 : decode cX2_takeWord 19 = .ok (.baload, 1) := by decide +kernel
theorem dX2_takeWord_20 : decode cX2_takeWord 20 = .ok (.bipush 97, 2) := by decide +kernel
theorem dX2_takeWord_22 : decode cX2_takeWord 22 = .ok (.if_icmp .lt 30, 3) := by decide +kernel
theorem dX2_takeWord_25 : decode cX2_takeWord 25 = .ok (.aload_n 0, 1) := by decide +kernel
theorem dX2_takeWord_26 : decode cX2_takeWord 26 = .ok (.getfield 9, 3) := by decide +kernel
theorem dX2_takeWord_29 : decode cX2_takeWord 29 = .ok (.aload_n 0, 1) := by decide +kernel
theorem dX2_takeWord_30 : decode cX2_takeWord 30 = .ok (.getfield 143, 3) := by decide +kernel
theorem dX2_takeWord_33 : decode cX2_takeWord 33 = .ok (.baload, 1) := by decide +kernel
theorem dX2_takeWord_34 : decode cX2_takeWord 34 = .ok (.bipush 122, 2) := by decide +kernel
theorem dX2_takeWord_36 : decode cX2_takeWord 36 = .ok (.if_icmp .gt 16, 3) := by decide +kernel
theorem dX2_takeWord_39 : decode cX2_takeWord 39 = .ok (.aload_n 0, 1) := by decide +kernel
theorem dX2_takeWord_40 : decode cX2_takeWord 40 = .ok (.dup, 1) := by decide +kernel
theorem dX2_takeWord_41 : decode cX2_takeWord 41 = .ok (.getfield 143, 3) := by decide +kernel
theorem dX2_takeWord_44 : decode cX2_takeWord 44 = .ok (.iconst 1, 1) := by decide +kernel
theorem dX2_takeWord_45 : decode cX2_takeWord 45 = .ok (.iadd, 1) := by decide +kernel
theorem dX2_takeWord_46 : decode cX2_takeWord 46 = .ok (.putfield 143, 3) := by decide +kernel
theorem dX2_takeWord_49 : decode cX2_takeWord 49 = .ok (.goto (-49), 3) := by decide +kernel
theorem dX2_takeWord_52 : decode cX2_takeWord 52 = .ok (.aload_n 0, 1) := by decide +kernel
theorem dX2_takeWord_53 : decode cX2_takeWord 53 = .ok (.aload_n 0, 1) := by decide +kernel
theorem dX2_takeWord_54 : decode cX2_takeWord 54 = .ok (.getfield 143, 3) := by decide +kernel
theorem dX2_takeWord_57 : decode cX2_takeWord 57 = .ok (.aload_n 0, 1) := by decide +kernel
theorem dX2_takeWord_58 : decode cX2_takeWord 58 = .ok (.getfield 146, 3) := by decide +kernel
theorem dX2_takeWord_61 : decode cX2_takeWord 61 = .ok (.isub, 1) := by decide +kernel
theorem dX2_takeWord_62 : decode cX2_takeWord 62 = .ok (.bipush 8, 2) := by decide +kernel
theorem dX2_takeWord_64 : decode cX2_takeWord 64 = .ok (.if_icmp .gt 7, 3) := by decide +kernel
theorem dX2_takeWord_67 : decode cX2_takeWord 67 = .ok (.iconst 1, 1) := by decide +kernel
theorem dX2_takeWord_68 : decode cX2_takeWord 68 = .ok (.goto 4, 3) := by decide +kernel
theorem dX2_takeWord_71 : decode cX2_takeWord 71 = .ok (.iconst 3, 1) := by decide +kernel
theorem dX2_takeWord_72 : decode cX2_takeWord 72 = .ok (.putfield 34, 3) := by decide +kernel
theorem dX2_takeWord_75 : decode cX2_takeWord 75 = .ok (.return_, 1) := by decide +kernel
theorem dX2_takeNumber_0 : decode cX2_takeNumber 0 = .ok (.aload_n 0, 1) := by decide +kernel
theorem dX2_takeNumber_1 : decode cX2_takeNumber 1 = .ok (.iconst 0, 1) := by decide +kernel
theorem dX2_takeNumber_2 : decode cX2_takeNumber 2 = .ok (.putfield 118, 3) := by decide +kernel
theorem dX2_takeNumber_5 : decode cX2_takeNumber 5 = .ok (.aload_n 0, 1) := by decide +kernel
theorem dX2_takeNumber_6 : decode cX2_takeNumber 6 = .ok (.getfield 143, 3) := by decide +kernel
theorem dX2_takeNumber_9 : decode cX2_takeNumber 9 = .ok (.aload_n 0, 1) := by decide +kernel
theorem dX2_takeNumber_10 : decode cX2_takeNumber 10 = .ok (.getfield 15, 3) := by decide +kernel
theorem dX2_takeNumber_13 : decode cX2_takeNumber 13 = .ok (.if_icmp .ge 68, 3) := by decide +kernel
theorem dX2_takeNumber_16 : decode cX2_takeNumber 16 = .ok (.aload_n 0, 1) := by decide +kernel
theorem dX2_takeNumber_17 : decode cX2_takeNumber 17 = .ok (.getfield 9, 3) := by decide +kernel
theorem dX2_takeNumber_20 : decode cX2_takeNumber 20 = .ok (.aload_n 0, 1) := by decide +kernel
theorem dX2_takeNumber_21 : decode cX2_takeNumber 21 = .ok (.getfield 143, 3) := by decide +kernel
theorem dX2_takeNumber_24 : decode cX2_takeNumber 24 = .ok (.baload, 1) := by decide +kernel
theorem dX2_takeNumber_25 : decode cX2_takeNumber 25 = .ok (.bipush 48, 2) := by decide +kernel
theorem dX2_takeNumber_27 : decode cX2_takeNumber 27 = .ok (.if_icmp .lt 54, 3) := by decide +kernel
theorem dX2_takeNumber_30 : decode cX2_takeNumber 30 = .ok (.aload_n 0, 1) := by decide +kernel
theorem dX2_takeNumber_31 : decode cX2_takeNumber 31 = .ok (.getfield 9, 3) := by decide +kernel
theorem dX2_takeNumber_34 : decode cX2_takeNumber 34 = .ok (.aload_n 0, 1) := by decide +kernel
theorem dX2_takeNumber_35 : decode cX2_takeNumber 35 = .ok (.getfield 143, 3) := by decide +kernel
theorem dX2_takeNumber_38 : decode cX2_takeNumber 38 = .ok (.baload, 1) := by decide +kernel
theorem dX2_takeNumber_39 : decode cX2_takeNumber 39 = .ok (.bipush 57, 2) := by decide +kernel
theorem dX2_takeNumber_41 : decode cX2_takeNumber 41 = .ok (.if_icmp .gt 40, 3) := by decide +kernel
theorem dX2_takeNumber_44 : decode cX2_takeNumber 44 = .ok (.aload_n 0, 1) := by decide +kernel
theorem dX2_takeNumber_45 : decode cX2_takeNumber 45 = .ok (.aload_n 0, 1) := by decide +kernel
theorem dX2_takeNumber_46 : decode cX2_takeNumber 46 = .ok (.getfield 118, 3) := by decide +kernel
theorem dX2_takeNumber_49 : decode cX2_takeNumber 49 = .ok (.bipush 10, 2) := by decide +kernel
theorem dX2_takeNumber_51 : decode cX2_takeNumber 51 = .ok (.imul, 1) := by decide +kernel
theorem dX2_takeNumber_52 : decode cX2_takeNumber 52 = .ok (.aload_n 0, 1) := by decide +kernel
theorem dX2_takeNumber_53 : decode cX2_takeNumber 53 = .ok (.getfield 9, 3) := by decide +kernel
theorem dX2_takeNumber_56 : decode cX2_takeNumber 56 = .ok (.aload_n 0, 1) := by decide +kernel
theorem dX2_takeNumber_57 : decode cX2_takeNumber 57 = .ok (.getfield 143, 3) := by decide +kernel
theorem dX2_takeNumber_60 : decode cX2_takeNumber 60 = .ok (.baload, 1) := by decide +kernel
theorem dX2_takeNumber_61 : decode cX2_takeNumber 61 = .ok (.iadd, 1) := by decide +kernel
theorem dX2_takeNumber_62 : decode cX2_takeNumber 62 = .ok (.bipush 48, 2) := by decide +kernel
theorem dX2_takeNumber_64 : decode cX2_takeNumber 64 = .ok (.isub, 1) := by decide +kernel
theorem dX2_takeNumber_65 : decode cX2_takeNumber 65 = .ok (.putfield 118, 3) := by decide +kernel
theorem dX2_takeNumber_68 : decode cX2_takeNumber 68 = .ok (.aload_n 0, 1) := by decide +kernel
theorem dX2_takeNumber_69 : decode cX2_takeNumber 69 = .ok (.dup, 1) := by decide +kernel
theorem dX2_takeNumber_70 : decode cX2_takeNumber 70 = .ok (.getfield 143, 3) := by decide +kernel
theorem dX2_takeNumber_73 : decode cX2_takeNumber 73 = .ok (.iconst 1, 1) := by decide +kernel
theorem dX2_takeNumber_74 : decode cX2_takeNumber 74 = .ok (.iadd, 1) := by decide +kernel
theorem dX2_takeNumber_75 : decode cX2_takeNumber 75 = .ok (.putfield 143, 3) := by decide +kernel
theorem dX2_takeNumber_78 : decode cX2_takeNumber 78 = .ok (.goto (-73), 3) := by decide +kernel
theorem dX2_takeNumber_81 : decode cX2_takeNumber 81 = .ok (.aload_n 0, 1) := by decide +kernel
theorem dX2_takeNumber_82 : decode cX2_takeNumber 82 = .ok (.aload_n 0, 1) := by decide +kernel
theorem dX2_takeNumber_83 : decode cX2_takeNumber 83 = .ok (.getfield 143, 3) := by decide +kernel
theorem dX2_takeNumber_86 : decode cX2_takeNumber 86 = .ok (.aload_n 0, 1) := by decide +kernel
theorem dX2_takeNumber_87 : decode cX2_takeNumber 87 = .ok (.getfield 146, 3) := by decide +kernel
theorem dX2_takeNumber_90 : decode cX2_takeNumber 90 = .ok (.isub, 1) := by decide +kernel
theorem dX2_takeNumber_91 : decode cX2_takeNumber 91 = .ok (.iconst 4, 1) := by decide +kernel
theorem dX2_takeNumber_92 : decode cX2_takeNumber 92 = .ok (.if_icmp .gt 7, 3) := by decide +kernel
theorem dX2_takeNumber_95 : decode cX2_takeNumber 95 = .ok (.iconst 2, 1) := by decide +kernel
theorem dX2_takeNumber_96 : decode cX2_takeNumber 96 = .ok (.goto 4, 3) := by decide +kernel
theorem dX2_takeNumber_99 : decode cX2_takeNumber 99 = .ok (.iconst 3, 1) := by decide +kernel
theorem dX2_takeNumber_100 : decode cX2_takeNumber 100 = .ok (.putfield 34, 3) := by decide +kernel
theorem dX2_takeNumber_103 : decode cX2_takeNumber 103 = .ok (.return_, 1) := by decide +kernel
theorem dX2_takeSign_0 : decode cX2_takeSign 0 = .ok (.aload_n 0, 1) := by decide +kernel
theorem dX2_takeSign_1 : decode cX2_takeSign 1 = .ok (.getfield 9, 3) := by decide +kernel
theorem dX2_takeSign_4 : decode cX2_takeSign 4 = .ok (.aload_n 0, 1) := by decide +kernel
theorem dX2_takeSign_5 : decode cX2_takeSign 5 = .ok (.getfield 143, 3) := by decide +kernel
theorem dX2_takeSign_8 : decode cX2_takeSign 8 = .ok (.baload, 1) := by decide +kernel
theorem dX2_takeSign_9 : decode cX2_takeSign 9 = .ok (.istore_n 1, 1) := by decide +kernel
theorem dX2_takeSign_10 : decode cX2_takeSign 10 = .ok (.aload_n 0, 1) := by decide +kernel
theorem dX2_takeSign_11 : decode cX2_takeSign 11 = .ok (.dup, 1) := by decide +kernel
theorem dX2_takeSign_12 : decode cX2_takeSign 12 = .ok (.getfield 143, 3) := by decide +kernel
theorem dX2_takeSign_15 : decode cX2_takeSign 15 = .ok (.iconst 1, 1) := by decide +kernel
theorem dX2_takeSign_16 : decode cX2_takeSign 16 = .ok (.iadd, 1) := by decide +kernel
theorem dX2_takeSign_17 : decode cX2_takeSign 17 = .ok (.putfield 143, 3) := by decide +kernel
theorem dX2_takeSign_20 : decode cX2_takeSign 20 = .ok (.iload_n 1, 1) := by decide +kernel
theorem dX2_takeSign_21 : decode cX2_takeSign 21 = .ok (.tableswitch 103 40 59 #[95, 95, 95, 95, 103, 95, 103, 95, 103, 103, 103, 103, 103, 103, 103, 103, 103, 103, 103, 95], 95) := by decide +kernel
theorem dX2_takeSign_116 : decode cX2_takeSign 116 = .ok (.aload_n 0, 1) := by decide +kernel
theorem dX2_takeSign_117 : decode cX2_takeSign 117 = .ok (.iload_n 1, 1) := by decide +kernel
theorem dX2_takeSign_118 : decode cX2_takeSign 118 = .ok (.putfield 34, 3) := by decide +kernel
theorem dX2_takeSign_121 : decode cX2_takeSign 121 = .ok (.goto 8, 3) := by decide +kernel
theorem dX2_takeSign_124 : decode cX2_takeSign 124 = .ok (.aload_n 0, 1) := by decide +kernel
theorem dX2_takeSign_125 : decode cX2_takeSign 125 = .ok (.iconst 3, 1) := by decide +kernel
theorem dX2_takeSign_126 : decode cX2_takeSign 126 = .ok (.putfield 34, 3) := by decide +kernel
theorem dX2_takeSign_129 : decode cX2_takeSign 129 = .ok (.return_, 1) := by decide +kernel
theorem dX3_init_0 : decode cX3_init 0 = .ok (.aload_n 0, 1) := by decide +kernel
theorem dX3_init_1 : decode cX3_init 1 = .ok (.invokespecial 3, 3) := by decide +kernel
theorem dX3_init_4 : decode cX3_init 4 = .ok (.aload_n 0, 1) := by decide +kernel
theorem dX3_init_5 : decode cX3_init 5 = .ok (.sipush 600, 3) := by decide +kernel
theorem dX3_init_8 : decode cX3_init 8 = .ok (.newarray .int, 2) := by decide +kernel
theorem dX3_init_10 : decode cX3_init 10 = .ok (.putfield 9, 3) := by decide +kernel
theorem dX3_init_13 : decode cX3_init 13 = .ok (.aload_n 0, 1) := by decide +kernel
theorem dX3_init_14 : decode cX3_init 14 = .ok (.bipush 16, 2) := by decide +kernel
theorem dX3_init_16 : decode cX3_init 16 = .ok (.newarray .int, 2) := by decide +kernel
theorem dX3_init_18 : decode cX3_init 18 = .ok (.putfield 15, 3) := by decide +kernel
theorem dX3_init_21 : decode cX3_init 21 = .ok (.return_, 1) := by decide +kernel
theorem dX3_clear_0 : decode cX3_clear 0 = .ok (.aload_n 0, 1) := by decide +kernel
theorem dX3_clear_1 : decode cX3_clear 1 = .ok (.iconst 0, 1) := by decide +kernel
theorem dX3_clear_2 : decode cX3_clear 2 = .ok (.putfield 18, 3) := by decide +kernel
theorem dX3_clear_5 : decode cX3_clear 5 = .ok (.return_, 1) := by decide +kernel
theorem dX3_useDefault_0 : decode cX3_useDefault 0 = .ok (.aload_n 0, 1) := by decide +kernel
theorem dX3_useDefault_1 : decode cX3_useDefault 1 = .ok (.invokevirtual 22, 3) := by decide +kernel
theorem dX3_useDefault_4 : decode cX3_useDefault 4 = .ok (.aload_n 0, 1) := by decide +kernel
theorem dX3_useDefault_5 : decode cX3_useDefault 5 = .ok (.iconst (-1), 1) := by decide +kernel
theorem dX3_useDefault_6 : decode cX3_useDefault 6 = .ok (.invokevirtual 25, 3) := by decide +kernel
theorem dX3_useDefault_9 : decode cX3_useDefault 9 = .ok (.aload_n 0, 1) := by decide +kernel
theorem dX3_useDefault_10 : decode cX3_useDefault 10 = .ok (.bipush (-2), 2) := by decide +kernel
theorem dX3_useDefault_12 : decode cX3_useDefault 12 = .ok (.invokevirtual 25, 3) := by decide +kernel
theorem dX3_useDefault_15 : decode cX3_useDefault 15 = .ok (.aload_n 0, 1) := by decide +kernel
theorem dX3_useDefault_16 : decode cX3_useDefault 16 = .ok (.bipush (-6), 2) := by decide +kernel
theorem dX3_useDefault_18 : decode cX3_useDefault 18 = .ok (.invokevirtual 25, 3) := by decide +kernel
theorem dX3_useDefault_21 : decode cX3_useDefault 21 = .ok (.aload_n 0, 1) := by decide +kernel
theorem dX3_useDefault_22 : decode cX3_useDefault 22 = .ok (.bipush (-3), 2) := by decide +kernel
theorem dX3_useDefault_24 : decode cX3_useDefault 24 = .ok (.invokevirtual 25, 3) := by decide +kernel
theorem dX3_useDefault_27 : decode cX3_useDefault 27 = .ok (.aload_n 0, 1) := by decide +kernel
theorem dX3_useDefault_28 : decode cX3_useDefault 28 = .ok (.bipush 10, 2) := by decide +kernel
theorem dX3_useDefault_30 : decode cX3_useDefault 30 = .ok (.invokevirtual 25, 3) := by decide +kernel
theorem dX3_useDefault_33 : decode cX3_useDefault 33 = .ok (.aload_n 0, 1) := by decide +kernel
theorem dX3_useDefault_34 : decode cX3_useDefault 34 = .ok (.bipush (-8), 2) := by decide +kernel
theorem dX3_useDefault_36 : decode cX3_useDefault 36 = .ok (.invokevirtual 25, 3) := by decide +kernel
theorem dX3_useDefault_39 : decode cX3_useDefault 39 = .ok (.aload_n 0, 1) := by decide +kernel
theorem dX3_useDefault_40 : decode cX3_useDefault 40 = .ok (.bipush (-6), 2) := by decide +kernel
theorem dX3_useDefault_42 : decode cX3_useDefault 42 = .ok (.invokevirtual 25, 3) := by decide +kernel
theorem dX3_useDefault_45 : decode cX3_useDefault 45 = .ok (.return_, 1) := by decide +kernel
theorem dX3_put_0 : decode cX3_put 0 = .ok (.aload_n 0, 1) := by decide +kernel
theorem dX3_put_1 : decode cX3_put 1 = .ok (.getfield 18, 3) := by decide +kernel
theorem dX3_put_4 : decode cX3_put 4 = .ok (.sipush 600, 3) := by decide +kernel
theorem dX3_put_7 : decode cX3_put 7 = .ok (.if_icmp .ge 23, 3) := by decide +kernel
theorem dX3_put_10 : decode cX3_put 10 = .ok (.aload_n 0, 1) := by decide +kernel
theorem dX3_put_11 : decode cX3_put 11 = .ok (.getfield 9, 3) := by decide +kernel
theorem dX3_put_14 : decode cX3_put 14 = .ok (.aload_n 0, 1) := by decide +kernel
theorem dX3_put_15 : decode cX3_put 15 = .ok (.getfield 18, 3) := by decide +kernel
theorem dX3_put_18 : decode cX3_put 18 = .ok (.iload_n 1, 1) := by decide +kernel
theorem dX3_put_19 : decode cX3_put 19 = .ok (.iastore, 1) := by decide +kernel
theorem dX3_put_20 : decode cX3_put 20 = .ok (.aload_n 0, 1) := by decide +kernel
theorem dX3_put_21 : decode cX3_put 21 = .ok (.dup, 1) := by decide +kernel
theorem dX3_put_22 : decode cX3_put 22 = .ok (.getfield 18, 3) := by decide +kernel
theorem dX3_put_25 : decode cX3_put 25 = .ok (.iconst 1, 1) := by decide +kernel
theorem dX3_put_26 : decode cX3_put 26 = .ok (.iadd, 1) := by decide +kernel
theorem dX3_put_27 : decode cX3_put 27 = .ok (.putfield 18, 3) := by decide +kernel
theorem dX3_put_30 : decode cX3_put 30 = .ok (.return_, 1) := by decide +kernel
theorem dX3_worth_0 : decode cX3_worth 0 = .ok (.aload_n 0, 1) := by decide +kernel
theorem dX3_worth_1 : decode cX3_worth 1 = .ok (.iconst 0, 1) := by decide +kernel
theorem dX3_worth_2 : decode cX3_worth 2 = .ok (.putfield 29, 3) := by decide +kernel
theorem dX3_worth_5 : decode cX3_worth 5 = .ok (.iconst 0, 1) := by decide +kernel
theorem dX3_worth_6 : decode cX3_worth 6 = .ok (.istore 6, 2) := by decide +kernel
theorem dX3_worth_8 : decode cX3_worth 8 = .ok (.iload 6, 2) := by decide +kernel
theorem dX3_worth_10 : decode cX3_worth 10 = .ok (.aload_n 0, 1) := by decide +kernel
theorem dX3_worth_11 : decode cX3_worth 11 = .ok (.getfield 18, 3) := by decide +kernel
theorem dX3_worth_14 : decode cX3_worth 14 = .ok (.if_icmp .ge 135, 3) := by decide +kernel
theorem dX3_worth_17 : decode cX3_worth 17 = .ok (.aload_n 0, 1) := by decide +kernel
theorem dX3_worth_18 : decode cX3_worth 18 = .ok (.getfield 9, 3) := by decide +kernel
theorem dX3_worth_21 : decode cX3_worth 21 = .ok (.iload 6, 2) := by decide +kernel
theorem dX3_worth_23 : decode cX3_worth 23 = .ok (.iaload, 1) := by decide +kernel
theorem dX3_worth_24 : decode cX3_worth 24 = .ok (.tableswitch 108 (-9) (-1) #[94, 94, 94, 94, 85, 76, 68, 60, 52], 52) := by decide +kernel
theorem dX3_worth_76 : decode cX3_worth 76 = .ok (.aload_n 0, 1) := by decide +kernel
theorem dX3_worth_77 : decode cX3_worth 77 = .ok (.iload_n 1, 1) := by decide +kernel
theorem dX3_worth_78 : decode cX3_worth 78 = .ok (.invokevirtual 32, 3) := by decide +kernel
theorem dX3_worth_81 : decode cX3_worth 81 = .ok (.goto 62, 3) := by decide +kernel
theorem dX3_worth_84 : decode cX3_worth 84 = .ok (.aload_n 0, 1) := by decide +kernel
theorem dX3_worth_85 : decode cX3_worth 85 = .ok (.iload_n 2, 1) := by decide +kernel
theorem dX3_worth_86 : decode cX3_worth 86 = .ok (.invokevirtual 32, 3) := by decide +kernel
theorem dX3_worth_89 : decode cX3_worth 89 = .ok (.goto 54, 3) := by decide +kernel
theorem dX3_worth_92 : decode cX3_worth 92 = .ok (.aload_n 0, 1) := by decide +kernel
theorem dX3_worth_93 : decode cX3_worth 93 = .ok (.iload_n 3, 1) := by decide +kernel
theorem dX3_worth_94 : decode cX3_worth 94 = .ok (.invokevirtual 32, 3) := by decide +kernel
theorem dX3_worth_97 : decode cX3_worth 97 = .ok (.goto 46, 3) := by decide +kernel
theorem dX3_worth_100 : decode cX3_worth 100 = .ok (.aload_n 0, 1) := by decide +kernel
theorem dX3_worth_101 : decode cX3_worth 101 = .ok (.iload 4, 2) := by decide +kernel
theorem dX3_worth_103 : decode cX3_worth 103 = .ok (.invokevirtual 32, 3) := by decide +kernel
theorem dX3_worth_106 : decode cX3_worth 106 = .ok (.goto 37, 3) := by decide +kernel
theorem dX3_worth_109 : decode cX3_worth 109 = .ok (.aload_n 0, 1) := by decide +kernel
theorem dX3_worth_110 : decode cX3_worth 110 = .ok (.iload 5, 2) := by decide +kernel
theorem dX3_worth_112 : decode cX3_worth 112 = .ok (.invokevirtual 32, 3) := by decide +kernel
theorem dX3_worth_115 : decode cX3_worth 115 = .ok (.goto 28, 3) := by decide +kernel
theorem dX3_worth_118 : decode cX3_worth 118 = .ok (.aload_n 0, 1) := by decide +kernel
theorem dX3_worth_119 : decode cX3_worth 119 = .ok (.aload_n 0, 1) := by decide +kernel
theorem dX3_worth_120 : decode cX3_worth 120 = .ok (.getfield 9, 3) := by decide +kernel
theorem dX3_worth_123 : decode cX3_worth 123 = .ok (.iload 6, 2) := by decide +kernel
theorem dX3_worth_125 : decode cX3_worth 125 = .ok (.iaload, 1) := by decide +kernel
theorem dX3_worth_126 : decode cX3_worth 126 = .ok (.invokevirtual 35, 3) := by decide +kernel
theorem dX3_worth_129 : decode cX3_worth 129 = .ok (.goto 14, 3) := by decide +kernel
theorem dX3_worth_132 : decode cX3_worth 132 = .ok (.aload_n 0, 1) := by decide +kernel
theorem dX3_worth_133 : decode cX3_worth 133 = .ok (.aload_n 0, 1) := by decide +kernel
theorem dX3_worth_134 : decode cX3_worth 134 = .ok (.getfield 9, 3) := by decide +kernel
theorem dX3_worth_137 : decode cX3_worth 137 = .ok (.iload 6, 2) := by decide +kernel
theorem dX3_worth_139 : decode cX3_worth 139 = .ok (.iaload, 1) := by decide +kernel
theorem dX3_worth_140 : decode cX3_worth 140 = .ok (.invokevirtual 32, 3) := by decide +kernel
theorem dX3_worth_143 : decode cX3_worth 143 = .ok (.iinc 6 1, 3) := by decide +kernel
theorem dX3_worth_146 : decode cX3_worth 146 = .ok (.goto (-138), 3) := by decide +kernel
theorem dX3_worth_149 : decode cX3_worth 149 = .ok (.aload_n 0, 1) := by decide +kernel
theorem dX3_worth_150 : decode cX3_worth 150 = .ok (.getfield 29, 3) := by decide +kernel
theorem dX3_worth_153 : decode cX3_worth 153 = .ok (.ifCond .le 17, 3) := by decide +kernel
theorem dX3_worth_156 : decode cX3_worth 156 = .ok (.aload_n 0, 1) := by decide +kernel
theorem dX3_worth_157 : decode cX3_worth 157 = .ok (.getfield 15, 3) := by decide +kernel
theorem dX3_worth_160 : decode cX3_worth 160 = .ok (.aload_n 0, 1) := by decide +kernel
theorem dX3_worth_161 : decode cX3_worth 161 = .ok (.getfield 29, 3) := by decide +kernel
theorem dX3_worth_164 : decode cX3_worth 164 = .ok (.iconst 1, 1) := by decide +kernel
theorem dX3_worth_165 : decode cX3_worth 165 = .ok (.isub, 1) := by decide +kernel
theorem dX3_worth_166 : decode cX3_worth 166 = .ok (.iaload, 1) := by decide +kernel
theorem dX3_worth_167 : decode cX3_worth 167 = .ok (.goto 4, 3) := by decide +kernel
theorem dX3_worth_170 : decode cX3_worth 170 = .ok (.iconst 0, 1) := by decide +kernel
theorem dX3_worth_171 : decode cX3_worth 171 = .ok (.ireturn, 1) := by decide +kernel
theorem dX3_hold_0 : decode cX3_hold 0 = .ok (.aload_n 0, 1) := by decide +kernel
theorem dX3_hold_1 : decode cX3_hold 1 = .ok (.getfield 29, 3) := by decide +kernel
theorem dX3_hold_4 : decode cX3_hold 4 = .ok (.bipush 16, 2) := by decide +kernel
theorem dX3_hold_6 : decode cX3_hold 6 = .ok (.if_icmp .ge 23, 3) := by decide +kernel
theorem dX3_hold_9 : decode cX3_hold 9 = .ok (.aload_n 0, 1) := by decide +kernel
theorem dX3_hold_10 : decode cX3_hold 10 = .ok (.getfield 15, 3) := by decide +kernel
theorem dX3_hold_13 : decode cX3_hold 13 = .ok (.aload_n 0, 1) := by decide +kernel
theorem dX3_hold_14 : decode cX3_hold 14 = .ok (.getfield 29, 3) := by decide +kernel
theorem dX3_hold_17 : decode cX3_hold 17 = .ok (.iload_n 1, 1) := by decide +kernel
theorem dX3_hold_18 : decode cX3_hold 18 = .ok (.iastore, 1) := by decide +kernel
theorem dX3_hold_19 : decode cX3_hold 19 = .ok (.aload_n 0, 1) := by decide +kernel
theorem dX3_hold_20 : decode cX3_hold 20 = .ok (.dup, 1) := by decide +kernel
theorem dX3_hold_21 : decode cX3_hold 21 = .ok (.getfield 29, 3) := by decide +kernel
theorem dX3_hold_24 : decode cX3_hold 24 = .ok (.iconst 1, 1) := by decide +kernel
theorem dX3_hold_25 : decode cX3_hold 25 = .ok (.iadd, 1) := by decide +kernel
theorem dX3_hold_26 : decode cX3_hold 26 = .ok (.putfield 29, 3) := by decide +kernel
theorem dX3_hold_29 : decode cX3_hold 29 = .ok (.return_, 1) := by decide +kernel
theorem dX3_combine_0 : decode cX3_combine 0 = .ok (.aload_n 0, 1) := by decide +kernel
theorem dX3_combine_1 : decode cX3_combine 1 = .ok (.getfield 29, 3) := by decide +kernel
theorem dX3_combine_4 : decode cX3_combine 4 = .ok (.iconst 2, 1) := by decide +kernel
theorem dX3_combine_5 : decode cX3_combine 5 = .ok (.if_icmp .ge 4, 3) := by decide +kernel
theorem dX3_combine_8 : decode cX3_combine 8 = .ok (.return_, 1) := by decide +kernel
theorem dX3_combine_9 : decode cX3_combine 9 = .ok (.aload_n 0, 1) := by decide +kernel
theorem dX3_combine_10 : decode cX3_combine 10 = .ok (.getfield 15, 3) := by decide +kernel
theorem dX3_combine_13 : decode cX3_combine 13 = .ok (.aload_n 0, 1) := by decide +kernel
theorem dX3_combine_14 : decode cX3_combine 14 = .ok (.getfield 29, 3) := by decide +kernel
theorem dX3_combine_17 : decode cX3_combine 17 = .ok (.iconst 1, 1) := by decide +kernel
theorem dX3_combine_18 : decode cX3_combine 18 = .ok (.isub, 1) := by decide +kernel
theorem dX3_combine_19 : decode cX3_combine 19 = .ok (.iaload, 1) := by decide +kernel
theorem dX3_combine_20 : decode cX3_combine 20 = .ok (.istore_n 2, 1) := by decide +kernel
theorem dX3_combine_21 : decode cX3_combine 21 = .ok (.aload_n 0, 1) := by decide +kernel
theorem dX3_combine_22 : decode cX3_combine 22 = .ok (.getfield 15, 3) := by decide +kernel
theorem dX3_combine_25 : decode cX3_combine 25 = .ok (.aload_n 0, 1) := by decide +kernel
theorem dX3_combine_26 : decode cX3_combine 26 = .ok (.getfield 29, 3) := by decide +kernel
theorem dX3_combine_29 : decode cX3_combine 29 = .ok (.iconst 2, 1) := by decide +kernel
theorem dX3_combine_30 : decode cX3_combine 30 = .ok (.isub, 1) := by decide +kernel
theorem dX3_combine_31 : decode cX3_combine 31 = .ok (.iaload, 1) := by decide +kernel
theorem dX3_combine_32 : decode cX3_combine 32 = .ok (.istore_n 3, 1) := by decide +kernel
theorem dX3_combine_33 : decode cX3_combine 33 = .ok (.aload_n 0, 1) := by decide +kernel
theorem dX3_combine_34 : decode cX3_combine 34 = .ok (.dup, 1) := by decide +kernel
theorem dX3_combine_35 : decode cX3_combine 35 = .ok (.getfield 29, 3) := by decide +kernel
theorem dX3_combine_38 : decode cX3_combine 38 = .ok (.iconst 1, 1) := by decide +kernel
theorem dX3_combine_39 : decode cX3_combine 39 = .ok (.isub, 1) := by decide +kernel
theorem dX3_combine_40 : decode cX3_combine 40 = .ok (.putfield 29, 3) := by decide +kernel
theorem dX3_combine_43 : decode cX3_combine 43 = .ok (.iload_n 1, 1) := by decide +kernel
theorem dX3_combine_44 : decode cX3_combine 44 = .ok (.tableswitch 52 (-8) (-6) #[44, 36, 28], 28) := by decide +kernel
theorem dX3_combine_72 : decode cX3_combine 72 = .ok (.iload_n 3, 1) := by decide +kernel
theorem dX3_combine_73 : decode cX3_combine 73 = .ok (.iload_n 2, 1) := by decide +kernel
theorem dX3_combine_74 : decode cX3_combine 74 = .ok (.iadd, 1) := by decide +kernel
theorem dX3_combine_75 : decode cX3_combine 75 = .ok (.istore 4, 2) := by decide +kernel
theorem dX3_combine_77 : decode cX3_combine 77 = .ok (.goto 32, 3) := by decide +kernel
theorem dX3_combine_80 : decode cX3_combine 80 = .ok (.iload_n 3, 1) := by decide +kernel
theorem dX3_combine_81 : decode cX3_combine 81 = .ok (.iload_n 2, 1) := by decide +kernel
theorem dX3_combine_82 : decode cX3_combine 82 = .ok (.isub, 1) := by decide +kernel
theorem dX3_combine_83 : decode cX3_combine 83 = .ok (.istore 4, 2) := by decide +kernel
theorem dX3_combine_85 : decode cX3_combine 85 = .ok (.goto 24, 3) := by decide +kernel
theorem dX3_combine_88 : decode cX3_combine 88 = .ok (.iload_n 3, 1) := by decide +kernel
theorem dX3_combine_89 : decode cX3_combine 89 = .ok (.iload_n 2, 1) := by decide +kernel
theorem dX3_combine_90 : decode cX3_combine 90 = .ok (.imul, 1) := by decide +kernel
theorem dX3_combine_91 : decode cX3_combine 91 = .ok (.istore 4, 2) := by decide +kernel
theorem dX3_combine_93 : decode cX3_combine 93 = .ok (.goto 16, 3) := by decide +kernel
theorem dX3_combine_96 : decode cX3_combine 96 = .ok (.iload_n 2, 1) := by decide +kernel
theorem dX3_combine_97 : decode cX3_combine 97 = .ok (.ifCond .ne 7, 3) := by decide +kernel
theorem dX3_combine_100 : decode cX3_combine 100 = .ok (.iconst 0, 1) := by decide +kernel
theorem dX3_combine_101 : decode cX3_combine 101 = .ok (.goto 6, 3) := by decide +kernel
theorem dX3_combine_104 : decode cX3_combine 104 = .ok (.iload_n 3, 1) := by decide +kernel
theorem dX3_combine_105 : decode cX3_combine 105 = .ok (.iload_n 2, 1) := by decide +kernel
theorem dX3_combine_106 : decode cX3_combine 106 = .ok (.idiv, 1) := by decide +kernel
theorem dX3_combine_107 : decode cX3_combine 107 = .ok (.istore 4, 2) := by decide +kernel
theorem dX3_combine_109 : decode cX3_combine 109 = .ok (.aload_n 0, 1) := by decide +kernel
theorem dX3_combine_110 : decode cX3_combine 110 = .ok (.getfield 15, 3) := by decide +kernel
theorem dX3_combine_113 : decode cX3_combine 113 = .ok (.aload_n 0, 1) := by decide +kernel
theorem dX3_combine_114 : decode cX3_combine 114 = .ok (.getfield 29, 3) := by decide +kernel
theorem dX3_combine_117 : decode cX3_combine 117 = .ok (.iconst 1, 1) := by decide +kernel
theorem dX3_combine_118 : decode cX3_combine 118 = .ok (.isub, 1) := by decide +kernel
theorem dX3_combine_119 : decode cX3_combine 119 = .ok (.iload 4, 2) := by decide +kernel
theorem dX3_combine_121 : decode cX3_combine 121 = .ok (.iastore, 1) := by decide +kernel
theorem dX3_combine_122 : decode cX3_combine 122 = .ok (.return_, 1) := by decide +kernel
theorem dX4_init_0 : decode cX4_init 0 = .ok (.aload_n 0, 1) := by decide +kernel
theorem dX4_init_1 : decode cX4_init 1 = .ok (.invokespecial 3, 3) := by decide +kernel
theorem dX4_init_4 : decode cX4_init 4 = .ok (.aload_n 0, 1) := by decide +kernel
theorem dX4_init_5 : decode cX4_init 5 = .ok (.bipush 24, 2) := by decide +kernel
theorem dX4_init_7 : decode cX4_init 7 = .ok (.newarray .int, 2) := by decide +kernel
theorem dX4_init_9 : decode cX4_init 9 = .ok (.putfield 9, 3) := by decide +kernel
theorem dX4_init_12 : decode cX4_init 12 = .ok (.aload_n 0, 1) := by decide +kernel
theorem dX4_init_13 : decode cX4_init 13 = .ok (.bipush 24, 2) := by decide +kernel
theorem dX4_init_15 : decode cX4_init 15 = .ok (.newarray .int, 2) := by decide +kernel
theorem dX4_init_17 : decode cX4_init 17 = .ok (.putfield 15, 3) := by decide +kernel
theorem dX4_init_20 : decode cX4_init 20 = .ok (.aload_n 0, 1) := by decide +kernel
theorem dX4_init_21 : decode cX4_init 21 = .ok (.bipush 24, 2) := by decide +kernel
theorem dX4_init_23 : decode cX4_init 23 = .ok (.newarray .int, 2) := by decide +kernel
theorem dX4_init_25 : decode cX4_init 25 = .ok (.putfield 18, 3) := by decide +kernel
theorem dX4_init_28 : decode cX4_init 28 = .ok (.aload_n 0, 1) := by decide +kernel
theorem dX4_init_29 : decode cX4_init 29 = .ok (.bipush 24, 2) := by decide +kernel
theorem dX4_init_31 : decode cX4_init 31 = .ok (.newarray .int, 2) := by decide +kernel
theorem dX4_init_33 : decode cX4_init 33 = .ok (.putfield 21, 3) := by decide +kernel
theorem dX4_init_36 : decode cX4_init 36 = .ok (.return_, 1) := by decide +kernel
theorem dX4_begin_0 : decode cX4_begin 0 = .ok (.aload_n 0, 1) := by decide +kernel
theorem dX4_begin_1 : decode cX4_begin 1 = .ok (.iconst 1, 1) := by decide +kernel
theorem dX4_begin_2 : decode cX4_begin 2 = .ok (.putfield 24, 3) := by decide +kernel
theorem dX4_begin_5 : decode cX4_begin 5 = .ok (.aload_n 0, 1) := by decide +kernel
theorem dX4_begin_6 : decode cX4_begin 6 = .ok (.iload_n 1, 1) := by decide +kernel
theorem dX4_begin_7 : decode cX4_begin 7 = .ok (.putfield 28, 3) := by decide +kernel
theorem dX4_begin_10 : decode cX4_begin 10 = .ok (.aload_n 0, 1) := by decide +kernel
theorem dX4_begin_11 : decode cX4_begin 11 = .ok (.iload_n 2, 1) := by decide +kernel
theorem dX4_begin_12 : decode cX4_begin 12 = .ok (.putfield 32, 3) := by decide +kernel
theorem dX4_begin_15 : decode cX4_begin 15 = .ok (.aload_n 0, 1) := by decide +kernel
theorem dX4_begin_16 : decode cX4_begin 16 = .ok (.iload_n 3, 1) := by decide +kernel
theorem dX4_begin_17 : decode cX4_begin 17 = .ok (.putfield 35, 3) := by decide +kernel
theorem dX4_begin_20 : decode cX4_begin 20 = .ok (.aload_n 0, 1) := by decide +kernel
theorem dX4_begin_21 : decode cX4_begin 21 = .ok (.iload 4, 2) := by decide +kernel
theorem dX4_begin_23 : decode cX4_begin 23 = .ok (.putfield 38, 3) := by decide +kernel
theorem dX4_begin_26 : decode cX4_begin 26 = .ok (.aload_n 0, 1) := by decide +kernel
theorem dX4_begin_27 : decode cX4_begin 27 = .ok (.iconst (-1), 1) := by decide +kernel
theorem dX4_begin_28 : decode cX4_begin 28 = .ok (.putfield 41, 3) := by decide +kernel
theorem dX4_begin_31 : decode cX4_begin 31 = .ok (.aload_n 0, 1) := by decide +kernel
theorem dX4_begin_32 : decode cX4_begin 32 = .ok (.iconst 0, 1) := by decide +kernel
theorem dX4_begin_33 : decode cX4_begin 33 = .ok (.putfield 44, 3) := by decide +kernel
theorem dX4_begin_36 : decode cX4_begin 36 = .ok (.aload_n 0, 1) := by decide +kernel
theorem dX4_begin_37 : decode cX4_begin 37 = .ok (.iconst 0, 1) := by decide +kernel
theorem dX4_begin_38 : decode cX4_begin 38 = .ok (.putfield 47, 3) := by decide +kernel
theorem dX4_begin_41 : decode cX4_begin 41 = .ok (.aload_n 0, 1) := by decide +kernel
theorem dX4_begin_42 : decode cX4_begin 42 = .ok (.iconst 0, 1) := by decide +kernel
theorem dX4_begin_43 : decode cX4_begin 43 = .ok (.putfield 50, 3) := by decide +kernel
theorem dX4_begin_46 : decode cX4_begin 46 = .ok (.aload_n 0, 1) := by decide +kernel
theorem dX4_begin_47 : decode cX4_begin 47 = .ok (.iconst 0, 1) := by decide +kernel
theorem dX4_begin_48 : decode cX4_begin 48 = .ok (.putfield 53, 3) := by decide +kernel
theorem dX4_begin_51 : decode cX4_begin 51 = .ok (.aload_n 0, 1) := by decide +kernel
theorem dX4_begin_52 : decode cX4_begin 52 = .ok (.iconst 0, 1) := by decide +kernel
theorem dX4_begin_53 : decode cX4_begin 53 = .ok (.putfield 56, 3) := by decide +kernel
theorem dX4_begin_56 : decode cX4_begin 56 = .ok (.aload_n 0, 1) := by decide +kernel
theorem dX4_begin_57 : decode cX4_begin 57 = .ok (.iconst 0, 1) := by decide +kernel
theorem dX4_begin_58 : decode cX4_begin 58 = .ok (.putfield 59, 3) := by decide +kernel
theorem dX4_begin_61 : decode cX4_begin 61 = .ok (.aload_n 0, 1) := by decide +kernel
theorem dX4_begin_62 : decode cX4_begin 62 = .ok (.iconst 0, 1) := by decide +kernel
theorem dX4_begin_63 : decode cX4_begin 63 = .ok (.putfield 62, 3) := by decide +kernel
theorem dX4_begin_66 : decode cX4_begin 66 = .ok (.return_, 1) := by decide +kernel
theorem dX4_copyFrom_0 : decode cX4_copyFrom 0 = .ok (.aload_n 0, 1) := by decide +kernel
theorem dX4_copyFrom_1 : decode cX4_copyFrom 1 = .ok (.aload_n 1, 1) := by decide +kernel
theorem dX4_copyFrom_2 : decode cX4_copyFrom 2 = .ok (.getfield 24, 3) := by decide +kernel
theorem dX4_copyFrom_5 : decode cX4_copyFrom 5 = .ok (.putfield 24, 3) := by decide +kernel
theorem dX4_copyFrom_8 : decode cX4_copyFrom 8 = .ok (.aload_n 0, 1) := by decide +kernel
theorem dX4_copyFrom_9 : decode cX4_copyFrom 9 = .ok (.aload_n 1, 1) := by decide +kernel
theorem dX4_copyFrom_10 : decode cX4_copyFrom 10 = .ok (.getfield 28, 3) := by decide +kernel
theorem dX4_copyFrom_13 : decode cX4_copyFrom 13 = .ok (.putfield 28, 3) := by decide +kernel
theorem dX4_copyFrom_16 : decode cX4_copyFrom 16 = .ok (.aload_n 0, 1) := by decide +kernel
theorem dX4_copyFrom_17 : decode cX4_copyFrom 17 = .ok (.aload_n 1, 1) := by decide +kernel
theorem dX4_copyFrom_18 : decode cX4_copyFrom 18 = .ok (.getfield 32, 3) := by decide +kernel
theorem dX4_copyFrom_21 : decode cX4_copyFrom 21 = .ok (.putfield 32, 3) := by decide +kernel
theorem dX4_copyFrom_24 : decode cX4_copyFrom 24 = .ok (.aload_n 0, 1) := by decide +kernel
theorem dX4_copyFrom_25 : decode cX4_copyFrom 25 = .ok (.aload_n 1, 1) := by decide +kernel
theorem dX4_copyFrom_26 : decode cX4_copyFrom 26 = .ok (.getfield 35, 3) := by decide +kernel
theorem dX4_copyFrom_29 : decode cX4_copyFrom 29 = .ok (.putfield 35, 3) := by decide +kernel
theorem dX4_copyFrom_32 : decode cX4_copyFrom 32 = .ok (.aload_n 0, 1) := by decide +kernel
theorem dX4_copyFrom_33 : decode cX4_copyFrom 33 = .ok (.aload_n 1, 1) := by decide +kernel
theorem dX4_copyFrom_34 : decode cX4_copyFrom 34 = .ok (.getfield 38, 3) := by decide +kernel
theorem dX4_copyFrom_37 : decode cX4_copyFrom 37 = .ok (.putfield 38, 3) := by decide +kernel
theorem dX4_copyFrom_40 : decode cX4_copyFrom 40 = .ok (.aload_n 0, 1) := by decide +kernel
theorem dX4_copyFrom_41 : decode cX4_copyFrom 41 = .ok (.aload_n 1, 1) := by decide +kernel
theorem dX4_copyFrom_42 : decode cX4_copyFrom 42 = .ok (.getfield 41, 3) := by decide +kernel
theorem dX4_copyFrom_45 : decode cX4_copyFrom 45 = .ok (.putfield 41, 3) := by decide +kernel
theorem dX4_copyFrom_48 : decode cX4_copyFrom 48 = .ok (.aload_n 0, 1) := by decide +kernel
theorem dX4_copyFrom_49 : decode cX4_copyFrom 49 = .ok (.aload_n 1, 1) := by decide +kernel
theorem dX4_copyFrom_50 : decode cX4_copyFrom 50 = .ok (.getfield 44, 3) := by decide +kernel
theorem dX4_copyFrom_53 : decode cX4_copyFrom 53 = .ok (.putfield 44, 3) := by decide +kernel
theorem dX4_copyFrom_56 : decode cX4_copyFrom 56 = .ok (.aload_n 0, 1) := by decide +kernel
theorem dX4_copyFrom_57 : decode cX4_copyFrom 57 = .ok (.aload_n 1, 1) := by decide +kernel
theorem dX4_copyFrom_58 : decode cX4_copyFrom 58 = .ok (.getfield 47, 3) := by decide +kernel
theorem dX4_copyFrom_61 : decode cX4_copyFrom 61 = .ok (.putfield 47, 3) := by decide +kernel
theorem dX4_copyFrom_64 : decode cX4_copyFrom 64 = .ok (.aload_n 0, 1) := by decide +kernel
theorem dX4_copyFrom_65 : decode cX4_copyFrom 65 = .ok (.aload_n 1, 1) := by decide +kernel
theorem dX4_copyFrom_66 : decode cX4_copyFrom 66 = .ok (.getfield 50, 3) := by decide +kernel
theorem dX4_copyFrom_69 : decode cX4_copyFrom 69 = .ok (.putfield 50, 3) := by decide +kernel
theorem dX4_copyFrom_72 : decode cX4_copyFrom 72 = .ok (.aload_n 0, 1) := by decide +kernel
theorem dX4_copyFrom_73 : decode cX4_copyFrom 73 = .ok (.aload_n 1, 1) := by decide +kernel
theorem dX4_copyFrom_74 : decode cX4_copyFrom 74 = .ok (.getfield 53, 3) := by decide +kernel
theorem dX4_copyFrom_77 : decode cX4_copyFrom 77 = .ok (.putfield 53, 3) := by decide +kernel
theorem dX4_copyFrom_80 : decode cX4_copyFrom 80 = .ok (.aload_n 0, 1) := by decide +kernel
theorem dX4_copyFrom_81 : decode cX4_copyFrom 81 = .ok (.aload_n 1, 1) := by decide +kernel
theorem dX4_copyFrom_82 : decode cX4_copyFrom 82 = .ok (.getfield 56, 3) := by decide +kernel
theorem dX4_copyFrom_85 : decode cX4_copyFrom 85 = .ok (.putfield 56, 3) := by decide +kernel
theorem dX4_copyFrom_88 : decode cX4_copyFrom 88 = .ok (.aload_n 0, 1) := by decide +kernel
theorem dX4_copyFrom_89 : decode cX4_copyFrom 89 = .ok (.aload_n 1, 1) := by decide +kernel
theorem dX4_copyFrom_90 : decode cX4_copyFrom 90 = .ok (.getfield 59, 3) := by decide +kernel
theorem dX4_copyFrom_93 : decode cX4_copyFrom 93 = .ok (.putfield 59, 3) := by decide +kernel
theorem dX4_copyFrom_96 : decode cX4_copyFrom 96 = .ok (.aload_n 0, 1) := by decide +kernel
theorem dX4_copyFrom_97 : decode cX4_copyFrom 97 = .ok (.aload_n 1, 1) := by decide +kernel
theorem dX4_copyFrom_98 : decode cX4_copyFrom 98 = .ok (.getfield 62, 3) := by decide +kernel
theorem dX4_copyFrom_101 : decode cX4_copyFrom 101 = .ok (.putfield 62, 3) := by decide +kernel
theorem dX4_copyFrom_104 : decode cX4_copyFrom 104 = .ok (.aload_n 1, 1) := by decide +kernel
theorem dX4_copyFrom_105 : decode cX4_copyFrom 105 = .ok (.getfield 9, 3) := by decide +kernel
theorem dX4_copyFrom_108 : decode cX4_copyFrom 108 = .ok (.iconst 0, 1) := by decide +kernel
theorem dX4_copyFrom_109 : decode cX4_copyFrom 109 = .ok (.aload_n 0, 1) := by decide +kernel
theorem dX4_copyFrom_110 : decode cX4_copyFrom 110 = .ok (.getfield 9, 3) := by decide +kernel
theorem dX4_copyFrom_113 : decode cX4_copyFrom 113 = .ok (.iconst 0, 1) := by decide +kernel
theorem dX4_copyFrom_114 : decode cX4_copyFrom 114 = .ok (.bipush 24, 2) := by decide +kernel
theorem dX4_copyFrom_116 : decode cX4_copyFrom 116 = .ok (.invokestatic 65, 3) := by decide +kernel
theorem dX4_copyFrom_119 : decode cX4_copyFrom 119 = .ok (.aload_n 1, 1) := by decide +kernel
theorem dX4_copyFrom_120 : decode cX4_copyFrom 120 = .ok (.getfield 15, 3) := by decide +kernel
theorem dX4_copyFrom_123 : decode cX4_copyFrom 123 = .ok (.iconst 0, 1) := by decide +kernel
theorem dX4_copyFrom_124 : decode cX4_copyFrom 124 = .ok (.aload_n 0, 1) := by decide +kernel
theorem dX4_copyFrom_125 : decode cX4_copyFrom 125 = .ok (.getfield 15, 3) := by decide +kernel
theorem dX4_copyFrom_128 : decode cX4_copyFrom 128 = .ok (.iconst 0, 1) := by decide +kernel
theorem dX4_copyFrom_129 : decode cX4_copyFrom 129 = .ok (.bipush 24, 2) := by decide +kernel
theorem dX4_copyFrom_131 : decode cX4_copyFrom 131 = .ok (.invokestatic 65, 3) := by decide +kernel
theorem dX4_copyFrom_134 : decode cX4_copyFrom 134 = .ok (.aload_n 1, 1) := by decide +kernel
theorem dX4_copyFrom_135 : decode cX4_copyFrom 135 = .ok (.getfield 18, 3) := by decide +kernel
theorem dX4_copyFrom_138 : decode cX4_copyFrom 138 = .ok (.iconst 0, 1) := by decide +kernel
theorem dX4_copyFrom_139 : decode cX4_copyFrom 139 = .ok (.aload_n 0, 1) := by decide +kernel
theorem dX4_copyFrom_140 : decode cX4_copyFrom 140 = .ok (.getfield 18, 3) := by decide +kernel
theorem dX4_copyFrom_143 : decode cX4_copyFrom 143 = .ok (.iconst 0, 1) := by decide +kernel
theorem dX4_copyFrom_144 : decode cX4_copyFrom 144 = .ok (.bipush 24, 2) := by decide +kernel
theorem dX4_copyFrom_146 : decode cX4_copyFrom 146 = .ok (.invokestatic 65, 3) := by decide +kernel
theorem dX4_copyFrom_149 : decode cX4_copyFrom 149 = .ok (.aload_n 1, 1) := by decide +kernel
theorem dX4_copyFrom_150 : decode cX4_copyFrom 150 = .ok (.getfield 21, 3) := by decide +kernel
theorem dX4_copyFrom_153 : decode cX4_copyFrom 153 = .ok (.iconst 0, 1) := by decide +kernel
theorem dX4_copyFrom_154 : decode cX4_copyFrom 154 = .ok (.aload_n 0, 1) := by decide +kernel
theorem dX4_copyFrom_155 : decode cX4_copyFrom 155 = .ok (.getfield 21, 3) := by decide +kernel
theorem dX4_copyFrom_158 : decode cX4_copyFrom 158 = .ok (.iconst 0, 1) := by decide +kernel
theorem dX4_copyFrom_159 : decode cX4_copyFrom 159 = .ok (.bipush 24, 2) := by decide +kernel
theorem dX4_copyFrom_161 : decode cX4_copyFrom 161 = .ok (.invokestatic 65, 3) := by decide +kernel
theorem dX4_copyFrom_164 : decode cX4_copyFrom 164 = .ok (.return_, 1) := by decide +kernel
theorem dX4_placeOf_0 : decode cX4_placeOf 0 = .ok (.iload_n 0, 1) := by decide +kernel
theorem dX4_placeOf_1 : decode cX4_placeOf 1 = .ok (.bipush 24, 2) := by decide +kernel
theorem dX4_placeOf_3 : decode cX4_placeOf 3 = .ok (.invokestatic 71, 3) := by decide +kernel
theorem dX4_placeOf_6 : decode cX4_placeOf 6 = .ok (.ireturn, 1) := by decide +kernel
theorem dX4_addMessage_0 : decode cX4_addMessage 0 = .ok (.aload_n 0, 1) := by decide +kernel
theorem dX4_addMessage_1 : decode cX4_addMessage 1 = .ok (.getfield 56, 3) := by decide +kernel
theorem dX4_addMessage_4 : decode cX4_addMessage 4 = .ok (.iload_n 2, 1) := by decide +kernel
theorem dX4_addMessage_5 : decode cX4_addMessage 5 = .ok (.if_icmp .lt 7, 3) := by decide +kernel
theorem dX4_addMessage_8 : decode cX4_addMessage 8 = .ok (.aload_n 0, 1) := by decide +kernel
theorem dX4_addMessage_9 : decode cX4_addMessage 9 = .ok (.invokevirtual 77, 3) := by decide +kernel
theorem dX4_addMessage_12 : decode cX4_addMessage 12 = .ok (.aload_n 0, 1) := by decide +kernel
theorem dX4_addMessage_13 : decode cX4_addMessage 13 = .ok (.getfield 47, 3) := by decide +kernel
theorem dX4_addMessage_16 : decode cX4_addMessage 16 = .ok (.istore 4, 2) := by decide +kernel
theorem dX4_addMessage_18 : decode cX4_addMessage 18 = .ok (.iload 4, 2) := by decide +kernel
theorem dX4_addMessage_20 : decode cX4_addMessage 20 = .ok (.invokestatic 80, 3) := by decide +kernel
theorem dX4_addMessage_23 : decode cX4_addMessage 23 = .ok (.istore 5, 2) := by decide +kernel
theorem dX4_addMessage_25 : decode cX4_addMessage 25 = .ok (.aload_n 0, 1) := by decide +kernel
theorem dX4_addMessage_26 : decode cX4_addMessage 26 = .ok (.getfield 9, 3) := by decide +kernel
theorem dX4_addMessage_29 : decode cX4_addMessage 29 = .ok (.iload 5, 2) := by decide +kernel
theorem dX4_addMessage_31 : decode cX4_addMessage 31 = .ok (.iload_n 1, 1) := by decide +kernel
theorem dX4_addMessage_32 : decode cX4_addMessage 32 = .ok (.iastore, 1) := by decide +kernel
theorem dX4_addMessage_33 : decode cX4_addMessage 33 = .ok (.aload_n 0, 1) := by decide +kernel
theorem dX4_addMessage_34 : decode cX4_addMessage 34 = .ok (.getfield 15, 3) := by decide +kernel
theorem dX4_addMessage_37 : decode cX4_addMessage 37 = .ok (.iload 5, 2) := by decide +kernel
theorem dX4_addMessage_39 : decode cX4_addMessage 39 = .ok (.aload_n 0, 1) := by decide +kernel
theorem dX4_addMessage_40 : decode cX4_addMessage 40 = .ok (.getfield 53, 3) := by decide +kernel
theorem dX4_addMessage_43 : decode cX4_addMessage 43 = .ok (.iastore, 1) := by decide +kernel
theorem dX4_addMessage_44 : decode cX4_addMessage 44 = .ok (.aload_n 0, 1) := by decide +kernel
theorem dX4_addMessage_45 : decode cX4_addMessage 45 = .ok (.getfield 18, 3) := by decide +kernel
theorem dX4_addMessage_48 : decode cX4_addMessage 48 = .ok (.iload 5, 2) := by decide +kernel
theorem dX4_addMessage_50 : decode cX4_addMessage 50 = .ok (.aload_n 0, 1) := by decide +kernel
theorem dX4_addMessage_51 : decode cX4_addMessage 51 = .ok (.getfield 38, 3) := by decide +kernel
theorem dX4_addMessage_54 : decode cX4_addMessage 54 = .ok (.iastore, 1) := by decide +kernel
theorem dX4_addMessage_55 : decode cX4_addMessage 55 = .ok (.aload_n 0, 1) := by decide +kernel
theorem dX4_addMessage_56 : decode cX4_addMessage 56 = .ok (.getfield 21, 3) := by decide +kernel
theorem dX4_addMessage_59 : decode cX4_addMessage 59 = .ok (.iload 5, 2) := by decide +kernel
theorem dX4_addMessage_61 : decode cX4_addMessage 61 = .ok (.iload_n 3, 1) := by decide +kernel
theorem dX4_addMessage_62 : decode cX4_addMessage 62 = .ok (.iastore, 1) := by decide +kernel
theorem dX4_addMessage_63 : decode cX4_addMessage 63 = .ok (.aload_n 0, 1) := by decide +kernel
theorem dX4_addMessage_64 : decode cX4_addMessage 64 = .ok (.dup, 1) := by decide +kernel
theorem dX4_addMessage_65 : decode cX4_addMessage 65 = .ok (.getfield 47, 3) := by decide +kernel
theorem dX4_addMessage_68 : decode cX4_addMessage 68 = .ok (.iconst 1, 1) := by decide +kernel
theorem dX4_addMessage_69 : decode cX4_addMessage 69 = .ok (.iadd, 1) := by decide +kernel
theorem dX4_addMessage_70 : decode cX4_addMessage 70 = .ok (.putfield 47, 3) := by decide +kernel
theorem dX4_addMessage_73 : decode cX4_addMessage 73 = .ok (.aload_n 0, 1) := by decide +kernel
theorem dX4_addMessage_74 : decode cX4_addMessage 74 = .ok (.dup, 1) := by decide +kernel
theorem dX4_addMessage_75 : decode cX4_addMessage 75 = .ok (.getfield 56, 3) := by decide +kernel
theorem dX4_addMessage_78 : decode cX4_addMessage 78 = .ok (.iconst 1, 1) := by decide +kernel
theorem dX4_addMessage_79 : decode cX4_addMessage 79 = .ok (.iadd, 1) := by decide +kernel
theorem dX4_addMessage_80 : decode cX4_addMessage 80 = .ok (.putfield 56, 3) := by decide +kernel
theorem dX4_addMessage_83 : decode cX4_addMessage 83 = .ok (.iload 4, 2) := by decide +kernel
theorem dX4_addMessage_85 : decode cX4_addMessage 85 = .ok (.ireturn, 1) := by decide +kernel
theorem dX4_takeNextKey_0 : decode cX4_takeNextKey 0 = .ok (.aload_n 0, 1) := by decide +kernel
theorem dX4_takeNextKey_1 : decode cX4_takeNextKey 1 = .ok (.dup, 1) := by decide +kernel
theorem dX4_takeNextKey_2 : decode cX4_takeNextKey 2 = .ok (.getfield 53, 3) := by decide +kernel
theorem dX4_takeNextKey_5 : decode cX4_takeNextKey 5 = .ok (.iconst 1, 1) := by decide +kernel
theorem dX4_takeNextKey_6 : decode cX4_takeNextKey 6 = .ok (.iadd, 1) := by decide +kernel
theorem dX4_takeNextKey_7 : decode cX4_takeNextKey 7 = .ok (.putfield 53, 3) := by decide +kernel
theorem dX4_takeNextKey_10 : decode cX4_takeNextKey 10 = .ok (.aload_n 0, 1) := by decide +kernel
theorem dX4_takeNextKey_11 : decode cX4_takeNextKey 11 = .ok (.iconst 0, 1) := by decide +kernel
theorem dX4_takeNextKey_12 : decode cX4_takeNextKey 12 = .ok (.putfield 56, 3) := by decide +kernel
theorem dX4_takeNextKey_15 : decode cX4_takeNextKey 15 = .ok (.return_, 1) := by decide +kernel
theorem dX4_changePath_0 : decode cX4_changePath 0 = .ok (.iload_n 1, 1) := by decide +kernel
theorem dX4_changePath_1 : decode cX4_changePath 1 = .ok (.aload_n 0, 1) := by decide +kernel
theorem dX4_changePath_2 : decode cX4_changePath 2 = .ok (.getfield 38, 3) := by decide +kernel
theorem dX4_changePath_5 : decode cX4_changePath 5 = .ok (.if_icmp .eq 14, 3) := by decide +kernel
theorem dX4_changePath_8 : decode cX4_changePath 8 = .ok (.aload_n 0, 1) := by decide +kernel
theorem dX4_changePath_9 : decode cX4_changePath 9 = .ok (.getfield 56, 3) := by decide +kernel
theorem dX4_changePath_12 : decode cX4_changePath 12 = .ok (.ifCond .le 7, 3) := by decide +kernel
theorem dX4_changePath_15 : decode cX4_changePath 15 = .ok (.aload_n 0, 1) := by decide +kernel
theorem dX4_changePath_16 : decode cX4_changePath 16 = .ok (.invokevirtual 77, 3) := by decide +kernel
theorem dX4_changePath_19 : decode cX4_changePath 19 = .ok (.aload_n 0, 1) := by decide +kernel
theorem dX4_changePath_20 : decode cX4_changePath 20 = .ok (.iload_n 1, 1) := by decide +kernel
theorem dX4_changePath_21 : decode cX4_changePath 21 = .ok (.putfield 38, 3) := by decide +kernel
theorem dX4_changePath_24 : decode cX4_changePath 24 = .ok (.return_, 1) := by decide +kernel
theorem dX4_startWaiting_0 : decode cX4_startWaiting 0 = .ok (.aload_n 0, 1) := by decide +kernel
theorem dX4_startWaiting_1 : decode cX4_startWaiting 1 = .ok (.getfield 50, 3) := by decide +kernel
theorem dX4_startWaiting_4 : decode cX4_startWaiting 4 = .ok (.istore_n 2, 1) := by decide +kernel
theorem dX4_startWaiting_5 : decode cX4_startWaiting 5 = .ok (.iload_n 2, 1) := by decide +kernel
theorem dX4_startWaiting_6 : decode cX4_startWaiting 6 = .ok (.aload_n 0, 1) := by decide +kernel
theorem dX4_startWaiting_7 : decode cX4_startWaiting 7 = .ok (.getfield 47, 3) := by decide +kernel
theorem dX4_startWaiting_10 : decode cX4_startWaiting 10 = .ok (.if_icmp .ge 41, 3) := by decide +kernel
theorem dX4_startWaiting_13 : decode cX4_startWaiting 13 = .ok (.iload_n 2, 1) := by decide +kernel
theorem dX4_startWaiting_14 : decode cX4_startWaiting 14 = .ok (.invokestatic 80, 3) := by decide +kernel
theorem dX4_startWaiting_17 : decode cX4_startWaiting 17 = .ok (.istore_n 3, 1) := by decide +kernel
theorem dX4_startWaiting_18 : decode cX4_startWaiting 18 = .ok (.aload_n 0, 1) := by decide +kernel
theorem dX4_startWaiting_19 : decode cX4_startWaiting 19 = .ok (.getfield 18, 3) := by decide +kernel
theorem dX4_startWaiting_22 : decode cX4_startWaiting 22 = .ok (.iload_n 3, 1) := by decide +kernel
theorem dX4_startWaiting_23 : decode cX4_startWaiting 23 = .ok (.iaload, 1) := by decide +kernel
theorem dX4_startWaiting_24 : decode cX4_startWaiting 24 = .ok (.iconst (-1), 1) := by decide +kernel
theorem dX4_startWaiting_25 : decode cX4_startWaiting 25 = .ok (.if_icmp .ne 20, 3) := by decide +kernel
theorem dX4_startWaiting_28 : decode cX4_startWaiting 28 = .ok (.aload_n 0, 1) := by decide +kernel
theorem dX4_startWaiting_29 : decode cX4_startWaiting 29 = .ok (.getfield 18, 3) := by decide +kernel
theorem dX4_startWaiting_32 : decode cX4_startWaiting 32 = .ok (.iload_n 3, 1) := by decide +kernel
theorem dX4_startWaiting_33 : decode cX4_startWaiting 33 = .ok (.aload_n 0, 1) := by decide +kernel
theorem dX4_startWaiting_34 : decode cX4_startWaiting 34 = .ok (.getfield 38, 3) := by decide +kernel
theorem dX4_startWaiting_37 : decode cX4_startWaiting 37 = .ok (.iastore, 1) := by decide +kernel
theorem dX4_startWaiting_38 : decode cX4_startWaiting 38 = .ok (.aload_n 0, 1) := by decide +kernel
theorem dX4_startWaiting_39 : decode cX4_startWaiting 39 = .ok (.getfield 21, 3) := by decide +kernel
theorem dX4_startWaiting_42 : decode cX4_startWaiting 42 = .ok (.iload_n 3, 1) := by decide +kernel
theorem dX4_startWaiting_43 : decode cX4_startWaiting 43 = .ok (.iload_n 1, 1) := by decide +kernel
theorem dX4_startWaiting_44 : decode cX4_startWaiting 44 = .ok (.iastore, 1) := by decide +kernel
theorem dX4_startWaiting_45 : decode cX4_startWaiting 45 = .ok (.iinc 2 1, 3) := by decide +kernel
theorem dX4_startWaiting_48 : decode cX4_startWaiting 48 = .ok (.goto (-43), 3) := by decide +kernel
theorem dX4_startWaiting_51 : decode cX4_startWaiting 51 = .ok (.return_, 1) := by decide +kernel
theorem dX4_takeArrivals_0 : decode cX4_takeArrivals 0 = .ok (.aload_n 0, 1) := by decide +kernel
theorem dX4_takeArrivals_1 : decode cX4_takeArrivals 1 = .ok (.getfield 50, 3) := by decide +kernel
theorem dX4_takeArrivals_4 : decode cX4_takeArrivals 4 = .ok (.istore_n 2, 1) := by decide +kernel
theorem dX4_takeArrivals_5 : decode cX4_takeArrivals 5 = .ok (.iload_n 2, 1) := by decide +kernel
theorem dX4_takeArrivals_6 : decode cX4_takeArrivals 6 = .ok (.aload_n 0, 1) := by decide +kernel
theorem dX4_takeArrivals_7 : decode cX4_takeArrivals 7 = .ok (.getfield 47, 3) := by decide +kernel
theorem dX4_takeArrivals_10 : decode cX4_takeArrivals 10 = .ok (.if_icmp .ge 41, 3) := by decide +kernel
theorem dX4_takeArrivals_13 : decode cX4_takeArrivals 13 = .ok (.iload_n 2, 1) := by decide +kernel
theorem dX4_takeArrivals_14 : decode cX4_takeArrivals 14 = .ok (.invokestatic 80, 3) := by decide +kernel
theorem dX4_takeArrivals_17 : decode cX4_takeArrivals 17 = .ok (.istore_n 3, 1) := by decide +kernel
theorem dX4_takeArrivals_18 : decode cX4_takeArrivals 18 = .ok (.aload_n 0, 1) := by decide +kernel
theorem dX4_takeArrivals_19 : decode cX4_takeArrivals 19 = .ok (.getfield 18, 3) := by decide +kernel
theorem dX4_takeArrivals_22 : decode cX4_takeArrivals 22 = .ok (.iload_n 3, 1) := by decide +kernel
theorem dX4_takeArrivals_23 : decode cX4_takeArrivals 23 = .ok (.iaload, 1) := by decide +kernel
theorem dX4_takeArrivals_24 : decode cX4_takeArrivals 24 = .ok (.ifCond .lt 21, 3) := by decide +kernel
theorem dX4_takeArrivals_27 : decode cX4_takeArrivals 27 = .ok (.aload_n 0, 1) := by decide +kernel
theorem dX4_takeArrivals_28 : decode cX4_takeArrivals 28 = .ok (.getfield 21, 3) := by decide +kernel
theorem dX4_takeArrivals_31 : decode cX4_takeArrivals 31 = .ok (.iload_n 3, 1) := by decide +kernel
theorem dX4_takeArrivals_32 : decode cX4_takeArrivals 32 = .ok (.iaload, 1) := by decide +kernel
theorem dX4_takeArrivals_33 : decode cX4_takeArrivals 33 = .ok (.iload_n 1, 1) := by decide +kernel
theorem dX4_takeArrivals_34 : decode cX4_takeArrivals 34 = .ok (.if_icmp .ne 11, 3) := by decide +kernel
theorem dX4_takeArrivals_37 : decode cX4_takeArrivals 37 = .ok (.aload_n 0, 1) := by decide +kernel
theorem dX4_takeArrivals_38 : decode cX4_takeArrivals 38 = .ok (.getfield 18, 3) := by decide +kernel
theorem dX4_takeArrivals_41 : decode cX4_takeArrivals 41 = .ok (.iload_n 3, 1) := by decide +kernel
theorem dX4_takeArrivals_42 : decode cX4_takeArrivals 42 = .ok (.bipush (-2), 2) := by decide +kernel
theorem dX4_takeArrivals_44 : decode cX4_takeArrivals 44 = .ok (.iastore, 1) := by decide +kernel
theorem dX4_takeArrivals_45 : decode cX4_takeArrivals 45 = .ok (.iinc 2 1, 3) := by decide +kernel
theorem dX4_takeArrivals_48 : decode cX4_takeArrivals 48 = .ok (.goto (-43), 3) := by decide +kernel
theorem dX4_takeArrivals_51 : decode cX4_takeArrivals 51 = .ok (.aload_n 0, 1) := by decide +kernel
theorem dX4_takeArrivals_52 : decode cX4_takeArrivals 52 = .ok (.getfield 50, 3) := by decide +kernel
theorem dX4_takeArrivals_55 : decode cX4_takeArrivals 55 = .ok (.istore_n 2, 1) := by decide +kernel
theorem dX4_takeArrivals_56 : decode cX4_takeArrivals 56 = .ok (.aload_n 0, 1) := by decide +kernel
theorem dX4_takeArrivals_57 : decode cX4_takeArrivals 57 = .ok (.getfield 50, 3) := by decide +kernel
theorem dX4_takeArrivals_60 : decode cX4_takeArrivals 60 = .ok (.aload_n 0, 1) := by decide +kernel
theorem dX4_takeArrivals_61 : decode cX4_takeArrivals 61 = .ok (.getfield 47, 3) := by decide +kernel
theorem dX4_takeArrivals_64 : decode cX4_takeArrivals 64 = .ok (.if_icmp .ge 65, 3) := by decide +kernel
theorem dX4_takeArrivals_67 : decode cX4_takeArrivals 67 = .ok (.aload_n 0, 1) := by decide +kernel
theorem dX4_takeArrivals_68 : decode cX4_takeArrivals 68 = .ok (.getfield 18, 3) := by decide +kernel
theorem dX4_takeArrivals_71 : decode cX4_takeArrivals 71 = .ok (.aload_n 0, 1) := by decide +kernel
theorem dX4_takeArrivals_72 : decode cX4_takeArrivals 72 = .ok (.getfield 50, 3) := by decide +kernel
theorem dX4_takeArrivals_75 : decode cX4_takeArrivals 75 = .ok (.invokestatic 80, 3) := by decide +kernel
theorem dX4_takeArrivals_78 : decode cX4_takeArrivals 78 = .ok (.iaload, 1) := by decide +kernel
theorem dX4_takeArrivals_79 : decode cX4_takeArrivals 79 = .ok (.bipush (-2), 2) := by decide +kernel
theorem dX4_takeArrivals_81 : decode cX4_takeArrivals 81 = .ok (.if_icmp .ne 48, 3) := by decide +kernel
theorem dX4_takeArrivals_84 : decode cX4_takeArrivals 84 = .ok (.aload_n 0, 1) := by decide +kernel
theorem dX4_takeArrivals_85 : decode cX4_takeArrivals 85 = .ok (.aload_n 0, 1) := by decide +kernel
theorem dX4_takeArrivals_86 : decode cX4_takeArrivals 86 = .ok (.getfield 9, 3) := by decide +kernel
theorem dX4_takeArrivals_89 : decode cX4_takeArrivals 89 = .ok (.aload_n 0, 1) := by decide +kernel
theorem dX4_takeArrivals_90 : decode cX4_takeArrivals 90 = .ok (.getfield 50, 3) := by decide +kernel
theorem dX4_takeArrivals_93 : decode cX4_takeArrivals 93 = .ok (.invokestatic 80, 3) := by decide +kernel
theorem dX4_takeArrivals_96 : decode cX4_takeArrivals 96 = .ok (.iaload, 1) := by decide +kernel
theorem dX4_takeArrivals_97 : decode cX4_takeArrivals 97 = .ok (.putfield 59, 3) := by decide +kernel
theorem dX4_takeArrivals_100 : decode cX4_takeArrivals 100 = .ok (.aload_n 0, 1) := by decide +kernel
theorem dX4_takeArrivals_101 : decode cX4_takeArrivals 101 = .ok (.bipush 31, 2) := by decide +kernel
theorem dX4_takeArrivals_103 : decode cX4_takeArrivals 103 = .ok (.aload_n 0, 1) := by decide +kernel
theorem dX4_takeArrivals_104 : decode cX4_takeArrivals 104 = .ok (.getfield 62, 3) := by decide +kernel
theorem dX4_takeArrivals_107 : decode cX4_takeArrivals 107 = .ok (.imul, 1) := by decide +kernel
theorem dX4_takeArrivals_108 : decode cX4_takeArrivals 108 = .ok (.aload_n 0, 1) := by decide +kernel
theorem dX4_takeArrivals_109 : decode cX4_takeArrivals 109 = .ok (.getfield 59, 3) := by decide +kernel
theorem dX4_takeArrivals_112 : decode cX4_takeArrivals 112 = .ok (.iadd, 1) := by decide +kernel
theorem dX4_takeArrivals_113 : decode cX4_takeArrivals 113 = .ok (.putfield 62, 3) := by decide +kernel
theorem dX4_takeArrivals_116 : decode cX4_takeArrivals 116 = .ok (.aload_n 0, 1) := by decide +kernel
theorem dX4_takeArrivals_117 : decode cX4_takeArrivals 117 = .ok (.dup, 1) := by decide +kernel
theorem dX4_takeArrivals_118 : decode cX4_takeArrivals 118 = .ok (.getfield 50, 3) := by decide +kernel
theorem dX4_takeArrivals_121 : decode cX4_takeArrivals 121 = .ok (.iconst 1, 1) := by decide +kernel
theorem dX4_takeArrivals_122 : decode cX4_takeArrivals 122 = .ok (.iadd, 1) := by decide +kernel
theorem dX4_takeArrivals_123 : decode cX4_takeArrivals 123 = .ok (.putfield 50, 3) := by decide +kernel
theorem dX4_takeArrivals_126 : decode cX4_takeArrivals 126 = .ok (.goto (-70), 3) := by decide +kernel
theorem dX4_takeArrivals_129 : decode cX4_takeArrivals 129 = .ok (.aload_n 0, 1) := by decide +kernel
theorem dX4_takeArrivals_130 : decode cX4_takeArrivals 130 = .ok (.getfield 50, 3) := by decide +kernel
theorem dX4_takeArrivals_133 : decode cX4_takeArrivals 133 = .ok (.iload_n 2, 1) := by decide +kernel
theorem dX4_takeArrivals_134 : decode cX4_takeArrivals 134 = .ok (.isub, 1) := by decide +kernel
theorem dX4_takeArrivals_135 : decode cX4_takeArrivals 135 = .ok (.ireturn, 1) := by decide +kernel
theorem dX4_dropEmptyOldPath_0 : decode cX4_dropEmptyOldPath 0 = .ok (.aload_n 0, 1) := by decide +kernel
theorem dX4_dropEmptyOldPath_1 : decode cX4_dropEmptyOldPath 1 = .ok (.getfield 41, 3) := by decide +kernel
theorem dX4_dropEmptyOldPath_4 : decode cX4_dropEmptyOldPath 4 = .ok (.iconst (-1), 1) := by decide +kernel
theorem dX4_dropEmptyOldPath_5 : decode cX4_dropEmptyOldPath 5 = .ok (.if_icmp .ne 4, 3) := by decide +kernel
theorem dX4_dropEmptyOldPath_8 : decode cX4_dropEmptyOldPath 8 = .ok (.return_, 1) := by decide +kernel
theorem dX4_dropEmptyOldPath_9 : decode cX4_dropEmptyOldPath 9 = .ok (.aload_n 0, 1) := by decide +kernel
theorem dX4_dropEmptyOldPath_10 : decode cX4_dropEmptyOldPath 10 = .ok (.getfield 50, 3) := by decide +kernel
theorem dX4_dropEmptyOldPath_13 : decode cX4_dropEmptyOldPath 13 = .ok (.istore_n 1, 1) := by decide +kernel
theorem dX4_dropEmptyOldPath_14 : decode cX4_dropEmptyOldPath 14 = .ok (.iload_n 1, 1) := by decide +kernel
theorem dX4_dropEmptyOldPath_15 : decode cX4_dropEmptyOldPath 15 = .ok (.aload_n 0, 1) := by decide +kernel
theorem dX4_dropEmptyOldPath_16 : decode cX4_dropEmptyOldPath 16 = .ok (.getfield 47, 3) := by decide +kernel
theorem dX4_dropEmptyOldPath_19 : decode cX4_dropEmptyOldPath 19 = .ok (.if_icmp .ge 26, 3) := by decide +kernel
theorem dX4_dropEmptyOldPath_22 : decode cX4_dropEmptyOldPath 22 = .ok (.aload_n 0, 1) := by decide +kernel
theorem dX4_dropEmptyOldPath_23 : decode cX4_dropEmptyOldPath 23 = .ok (.getfield 18, 3) := by decide +kernel
theorem dX4_dropEmptyOldPath_26 : decode cX4_dropEmptyOldPath 26 = .ok (.iload_n 1, 1) := by decide +kernel
theorem dX4_dropEmptyOldPath_27 : decode cX4_dropEmptyOldPath 27 = .ok (.invokestatic 80, 3) := by decide +kernel
theorem dX4_dropEmptyOldPath_30 : decode cX4_dropEmptyOldPath 30 = .ok (.iaload, 1) := by decide +kernel
theorem dX4_dropEmptyOldPath_31 : decode cX4_dropEmptyOldPath 31 = .ok (.aload_n 0, 1) := by decide +kernel
theorem dX4_dropEmptyOldPath_32 : decode cX4_dropEmptyOldPath 32 = .ok (.getfield 41, 3) := by decide +kernel
theorem dX4_dropEmptyOldPath_35 : decode cX4_dropEmptyOldPath 35 = .ok (.if_icmp .ne 4, 3) := by decide +kernel
theorem dX4_dropEmptyOldPath_38 : decode cX4_dropEmptyOldPath 38 = .ok (.return_, 1) := by decide +kernel
theorem dX4_dropEmptyOldPath_39 : decode cX4_dropEmptyOldPath 39 = .ok (.iinc 1 1, 3) := by decide +kernel
theorem dX4_dropEmptyOldPath_42 : decode cX4_dropEmptyOldPath 42 = .ok (.goto (-28), 3) := by decide +kernel
theorem dX4_dropEmptyOldPath_45 : decode cX4_dropEmptyOldPath 45 = .ok (.aload_n 0, 1) := by decide +kernel
theorem dX4_dropEmptyOldPath_46 : decode cX4_dropEmptyOldPath 46 = .ok (.iconst (-1), 1) := by decide +kernel
theorem dX4_dropEmptyOldPath_47 : decode cX4_dropEmptyOldPath 47 = .ok (.putfield 41, 3) := by decide +kernel
theorem dX4_dropEmptyOldPath_50 : decode cX4_dropEmptyOldPath 50 = .ok (.return_, 1) := by decide +kernel
theorem dX4_moveMessages_0 : decode cX4_moveMessages 0 = .ok (.iconst 0, 1) := by decide +kernel
theorem dX4_moveMessages_1 : decode cX4_moveMessages 1 = .ok (.istore 4, 2) := by decide +kernel
theorem dX4_moveMessages_3 : decode cX4_moveMessages 3 = .ok (.aload_n 0, 1) := by decide +kernel
theorem dX4_moveMessages_4 : decode cX4_moveMessages 4 = .ok (.getfield 50, 3) := by decide +kernel
theorem dX4_moveMessages_7 : decode cX4_moveMessages 7 = .ok (.istore 5, 2) := by decide +kernel
theorem dX4_moveMessages_9 : decode cX4_moveMessages 9 = .ok (.iload 5, 2) := by decide +kernel
theorem dX4_moveMessages_11 : decode cX4_moveMessages 11 = .ok (.aload_n 0, 1) := by decide +kernel
theorem dX4_moveMessages_12 : decode cX4_moveMessages 12 = .ok (.getfield 47, 3) := by decide +kernel
theorem dX4_moveMessages_15 : decode cX4_moveMessages 15 = .ok (.if_icmp .ge 54, 3) := by decide +kernel
theorem dX4_moveMessages_18 : decode cX4_moveMessages 18 = .ok (.iload 5, 2) := by decide +kernel
theorem dX4_moveMessages_20 : decode cX4_moveMessages 20 = .ok (.invokestatic 80, 3) := by decide +kernel
theorem dX4_moveMessages_23 : decode cX4_moveMessages 23 = .ok (.istore 6, 2) := by decide +kernel
theorem dX4_moveMessages_25 : decode cX4_moveMessages 25 = .ok (.aload_n 0, 1) := by decide +kernel
theorem dX4_moveMessages_26 : decode cX4_moveMessages 26 = .ok (.aload_n 0, 1) := by decide +kernel
theorem dX4_moveMessages_27 : decode cX4_moveMessages 27 = .ok (.getfield 18, 3) := by decide +kernel
theorem dX4_moveMessages_30 : decode cX4_moveMessages 30 = .ok (.iload 6, 2) := by decide +kernel
theorem dX4_moveMessages_32 : decode cX4_moveMessages 32 = .ok (.iaload, 1) := by decide +kernel
theorem dX4_moveMessages_33 : decode cX4_moveMessages 33 = .ok (.iload_n 1, 1) := by decide +kernel
theorem dX4_moveMessages_34 : decode cX4_moveMessages 34 = .ok (.iload_n 2, 1) := by decide +kernel
theorem dX4_moveMessages_35 : decode cX4_moveMessages 35 = .ok (.invokevirtual 84, 3) := by decide +kernel
theorem dX4_moveMessages_38 : decode cX4_moveMessages 38 = .ok (.ifCond .eq 25, 3) := by decide +kernel
theorem dX4_moveMessages_41 : decode cX4_moveMessages 41 = .ok (.aload_n 0, 1) := by decide +kernel
theorem dX4_moveMessages_42 : decode cX4_moveMessages 42 = .ok (.getfield 18, 3) := by decide +kernel
theorem dX4_moveMessages_45 : decode cX4_moveMessages 45 = .ok (.iload 6, 2) := by decide +kernel
theorem dX4_moveMessages_47 : decode cX4_moveMessages 47 = .ok (.aload_n 0, 1) := by decide +kernel
theorem dX4_moveMessages_48 : decode cX4_moveMessages 48 = .ok (.getfield 38, 3) := by decide +kernel
theorem dX4_moveMessages_51 : decode cX4_moveMessages 51 = .ok (.iastore, 1) := by decide +kernel
theorem dX4_moveMessages_52 : decode cX4_moveMessages 52 = .ok (.aload_n 0, 1) := by decide +kernel
theorem dX4_moveMessages_53 : decode cX4_moveMessages 53 = .ok (.getfield 21, 3) := by decide +kernel
theorem dX4_moveMessages_56 : decode cX4_moveMessages 56 = .ok (.iload 6, 2) := by decide +kernel
theorem dX4_moveMessages_58 : decode cX4_moveMessages 58 = .ok (.iload_n 3, 1) := by decide +kernel
theorem dX4_moveMessages_59 : decode cX4_moveMessages 59 = .ok (.iastore, 1) := by decide +kernel
theorem dX4_moveMessages_60 : decode cX4_moveMessages 60 = .ok (.iinc 4 1, 3) := by decide +kernel
theorem dX4_moveMessages_63 : decode cX4_moveMessages 63 = .ok (.iinc 5 1, 3) := by decide +kernel
theorem dX4_moveMessages_66 : decode cX4_moveMessages 66 = .ok (.goto (-57), 3) := by decide +kernel
theorem dX4_moveMessages_69 : decode cX4_moveMessages 69 = .ok (.iload 4, 2) := by decide +kernel
theorem dX4_moveMessages_71 : decode cX4_moveMessages 71 = .ok (.ireturn, 1) := by decide +kernel
theorem dX4_routeUses_0 : decode cX4_routeUses 0 = .ok (.iload_n 1, 1) := by decide +kernel
theorem dX4_routeUses_1 : decode cX4_routeUses 1 = .ok (.bipush 100, 2) := by decide +kernel
theorem dX4_routeUses_3 : decode cX4_routeUses 3 = .ok (.if_icmp .ne 17, 3) := by decide +kernel
theorem dX4_routeUses_6 : decode cX4_routeUses 6 = .ok (.aload_n 0, 1) := by decide +kernel
theorem dX4_routeUses_7 : decode cX4_routeUses 7 = .ok (.getfield 28, 3) := by decide +kernel
theorem dX4_routeUses_10 : decode cX4_routeUses 10 = .ok (.aload_n 0, 1) := by decide +kernel
theorem dX4_routeUses_11 : decode cX4_routeUses 11 = .ok (.getfield 32, 3) := by decide +kernel
theorem dX4_routeUses_14 : decode cX4_routeUses 14 = .ok (.iload_n 2, 1) := by decide +kernel
theorem dX4_routeUses_15 : decode cX4_routeUses 15 = .ok (.iload_n 3, 1) := by decide +kernel
theorem dX4_routeUses_16 : decode cX4_routeUses 16 = .ok (.invokestatic 88, 3) := by decide +kernel
theorem dX4_routeUses_19 : decode cX4_routeUses 19 = .ok (.ireturn, 1) := by decide +kernel
theorem dX4_routeUses_20 : decode cX4_routeUses 20 = .ok (.iload_n 1, 1) := by decide +kernel
theorem dX4_routeUses_21 : decode cX4_routeUses 21 = .ok (.ifCond .lt 33, 3) := by decide +kernel
theorem dX4_routeUses_24 : decode cX4_routeUses 24 = .ok (.aload_n 0, 1) := by decide +kernel
theorem dX4_routeUses_25 : decode cX4_routeUses 25 = .ok (.getfield 28, 3) := by decide +kernel
theorem dX4_routeUses_28 : decode cX4_routeUses 28 = .ok (.iload_n 1, 1) := by decide +kernel
theorem dX4_routeUses_29 : decode cX4_routeUses 29 = .ok (.iload_n 2, 1) := by decide +kernel
theorem dX4_routeUses_30 : decode cX4_routeUses 30 = .ok (.iload_n 3, 1) := by decide +kernel
theorem dX4_routeUses_31 : decode cX4_routeUses 31 = .ok (.invokestatic 88, 3) := by decide +kernel
theorem dX4_routeUses_34 : decode cX4_routeUses 34 = .ok (.ifCond .ne 16, 3) := by decide +kernel
theorem dX4_routeUses_37 : decode cX4_routeUses 37 = .ok (.iload_n 1, 1) := by decide +kernel
theorem dX4_routeUses_38 : decode cX4_routeUses 38 = .ok (.aload_n 0, 1) := by decide +kernel
theorem dX4_routeUses_39 : decode cX4_routeUses 39 = .ok (.getfield 32, 3) := by decide +kernel
theorem dX4_routeUses_42 : decode cX4_routeUses 42 = .ok (.iload_n 2, 1) := by decide +kernel
theorem dX4_routeUses_43 : decode cX4_routeUses 43 = .ok (.iload_n 3, 1) := by decide +kernel
theorem dX4_routeUses_44 : decode cX4_routeUses 44 = .ok (.invokestatic 88, 3) := by decide +kernel
theorem dX4_routeUses_47 : decode cX4_routeUses 47 = .ok (.ifCond .eq 7, 3) := by decide +kernel
theorem dX4_routeUses_50 : decode cX4_routeUses 50 = .ok (.iconst 1, 1) := by decide +kernel
theorem dX4_routeUses_51 : decode cX4_routeUses 51 = .ok (.goto 4, 3) := by decide +kernel
theorem dX4_routeUses_54 : decode cX4_routeUses 54 = .ok (.iconst 0, 1) := by decide +kernel
theorem dX4_routeUses_55 : decode cX4_routeUses 55 = .ok (.ireturn, 1) := by decide +kernel
theorem dX4_samePair_0 : decode cX4_samePair 0 = .ok (.iload_n 0, 1) := by decide +kernel
theorem dX4_samePair_1 : decode cX4_samePair 1 = .ok (.iload_n 2, 1) := by decide +kernel
theorem dX4_samePair_2 : decode cX4_samePair 2 = .ok (.if_icmp .ne 8, 3) := by decide +kernel
theorem dX4_samePair_5 : decode cX4_samePair 5 = .ok (.iload_n 1, 1) := by decide +kernel
theorem dX4_samePair_6 : decode cX4_samePair 6 = .ok (.iload_n 3, 1) := by decide +kernel
theorem dX4_samePair_7 : decode cX4_samePair 7 = .ok (.if_icmp .eq 13, 3) := by decide +kernel
theorem dX4_samePair_10 : decode cX4_samePair 10 = .ok (.iload_n 0, 1) := by decide +kernel
theorem dX4_samePair_11 : decode cX4_samePair 11 = .ok (.iload_n 3, 1) := by decide +kernel
theorem dX4_samePair_12 : decode cX4_samePair 12 = .ok (.if_icmp .ne 12, 3) := by decide +kernel
theorem dX4_samePair_15 : decode cX4_samePair 15 = .ok (.iload_n 1, 1) := by decide +kernel
theorem dX4_samePair_16 : decode cX4_samePair 16 = .ok (.iload_n 2, 1) := by decide +kernel
theorem dX4_samePair_17 : decode cX4_samePair 17 = .ok (.if_icmp .ne 7, 3) := by decide +kernel
theorem dX4_samePair_20 : decode cX4_samePair 20 = .ok (.iconst 1, 1) := by decide +kernel
theorem dX4_samePair_21 : decode cX4_samePair 21 = .ok (.goto 4, 3) := by decide +kernel
theorem dX4_samePair_24 : decode cX4_samePair 24 = .ok (.iconst 0, 1) := by decide +kernel
theorem dX4_samePair_25 : decode cX4_samePair 25 = .ok (.ireturn, 1) := by decide +kernel
theorem dX4_leadsOver_0 : decode cX4_leadsOver 0 = .ok (.aload_n 0, 1) := by decide +kernel
theorem dX4_leadsOver_1 : decode cX4_leadsOver 1 = .ok (.getfield 24, 3) := by decide +kernel
theorem dX4_leadsOver_4 : decode cX4_leadsOver 4 = .ok (.ifCond .eq 23, 3) := by decide +kernel
theorem dX4_leadsOver_7 : decode cX4_leadsOver 7 = .ok (.aload_n 0, 1) := by decide +kernel
theorem dX4_leadsOver_8 : decode cX4_leadsOver 8 = .ok (.getfield 38, 3) := by decide +kernel
theorem dX4_leadsOver_11 : decode cX4_leadsOver 11 = .ok (.iload_n 1, 1) := by decide +kernel
theorem dX4_leadsOver_12 : decode cX4_leadsOver 12 = .ok (.if_icmp .eq 11, 3) := by decide +kernel
theorem dX4_leadsOver_15 : decode cX4_leadsOver 15 = .ok (.aload_n 0, 1) := by decide +kernel
theorem dX4_leadsOver_16 : decode cX4_leadsOver 16 = .ok (.getfield 41, 3) := by decide +kernel
theorem dX4_leadsOver_19 : decode cX4_leadsOver 19 = .ok (.iload_n 1, 1) := by decide +kernel
theorem dX4_leadsOver_20 : decode cX4_leadsOver 20 = .ok (.if_icmp .ne 7, 3) := by decide +kernel
theorem dX4_leadsOver_23 : decode cX4_leadsOver 23 = .ok (.iconst 1, 1) := by decide +kernel
theorem dX4_leadsOver_24 : decode cX4_leadsOver 24 = .ok (.goto 4, 3) := by decide +kernel
theorem dX4_leadsOver_27 : decode cX4_leadsOver 27 = .ok (.iconst 0, 1) := by decide +kernel
theorem dX4_leadsOver_28 : decode cX4_leadsOver 28 = .ok (.ireturn, 1) := by decide +kernel
theorem dX4_countUndelivered_0 : decode cX4_countUndelivered 0 = .ok (.iconst 0, 1) := by decide +kernel
theorem dX4_countUndelivered_1 : decode cX4_countUndelivered 1 = .ok (.istore_n 2, 1) := by decide +kernel
theorem dX4_countUndelivered_2 : decode cX4_countUndelivered 2 = .ok (.aload_n 0, 1) := by decide +kernel
theorem dX4_countUndelivered_3 : decode cX4_countUndelivered 3 = .ok (.getfield 50, 3) := by decide +kernel
theorem dX4_countUndelivered_6 : decode cX4_countUndelivered 6 = .ok (.istore_n 3, 1) := by decide +kernel
theorem dX4_countUndelivered_7 : decode cX4_countUndelivered 7 = .ok (.iload_n 3, 1) := by decide +kernel
theorem dX4_countUndelivered_8 : decode cX4_countUndelivered 8 = .ok (.aload_n 0, 1) := by decide +kernel
theorem dX4_countUndelivered_9 : decode cX4_countUndelivered 9 = .ok (.getfield 47, 3) := by decide +kernel
theorem dX4_countUndelivered_12 : decode cX4_countUndelivered 12 = .ok (.if_icmp .ge 28, 3) := by decide +kernel
theorem dX4_countUndelivered_15 : decode cX4_countUndelivered 15 = .ok (.aload_n 0, 1) := by decide +kernel
theorem dX4_countUndelivered_16 : decode cX4_countUndelivered 16 = .ok (.getfield 18, 3) := by decide +kernel
theorem dX4_countUndelivered_19 : decode cX4_countUndelivered 19 = .ok (.iload_n 3, 1) := by decide +kernel
theorem dX4_countUndelivered_20 : decode cX4_countUndelivered 20 = .ok (.invokestatic 80, 3) := by decide +kernel
theorem dX4_countUndelivered_23 : decode cX4_countUndelivered 23 = .ok (.iaload, 1) := by decide +kernel
theorem dX4_countUndelivered_24 : decode cX4_countUndelivered 24 = .ok (.invokestatic 92, 3) := by decide +kernel
theorem dX4_countUndelivered_27 : decode cX4_countUndelivered 27 = .ok (.iload_n 1, 1) := by decide +kernel
theorem dX4_countUndelivered_28 : decode cX4_countUndelivered 28 = .ok (.if_icmp .ne 6, 3) := by decide +kernel
theorem dX4_countUndelivered_31 : decode cX4_countUndelivered 31 = .ok (.iinc 2 1, 3) := by decide +kernel
theorem dX4_countUndelivered_34 : decode cX4_countUndelivered 34 = .ok (.iinc 3 1, 3) := by decide +kernel
theorem dX4_countUndelivered_37 : decode cX4_countUndelivered 37 = .ok (.goto (-30), 3) := by decide +kernel
theorem dX4_countUndelivered_40 : decode cX4_countUndelivered 40 = .ok (.iload_n 2, 1) := by decide +kernel
theorem dX4_countUndelivered_41 : decode cX4_countUndelivered 41 = .ok (.ireturn, 1) := by decide +kernel
theorem dX4_stateOf_0 : decode cX4_stateOf 0 = .ok (.iload_n 0, 1) := by decide +kernel
theorem dX4_stateOf_1 : decode cX4_stateOf 1 = .ok (.iconst (-1), 1) := by decide +kernel
theorem dX4_stateOf_2 : decode cX4_stateOf 2 = .ok (.if_icmp .ne 5, 3) := by decide +kernel
theorem dX4_stateOf_5 : decode cX4_stateOf 5 = .ok (.iconst 0, 1) := by decide +kernel
theorem dX4_stateOf_6 : decode cX4_stateOf 6 = .ok (.ireturn, 1) := by decide +kernel
theorem dX4_stateOf_7 : decode cX4_stateOf 7 = .ok (.iload_n 0, 1) := by decide +kernel
theorem dX4_stateOf_8 : decode cX4_stateOf 8 = .ok (.bipush (-2), 2) := by decide +kernel
theorem dX4_stateOf_10 : decode cX4_stateOf 10 = .ok (.if_icmp .ne 7, 3) := by decide +kernel
theorem dX4_stateOf_13 : decode cX4_stateOf 13 = .ok (.iconst 2, 1) := by decide +kernel
theorem dX4_stateOf_14 : decode cX4_stateOf 14 = .ok (.goto 4, 3) := by decide +kernel
theorem dX4_stateOf_17 : decode cX4_stateOf 17 = .ok (.iconst 1, 1) := by decide +kernel
theorem dX4_stateOf_18 : decode cX4_stateOf 18 = .ok (.ireturn, 1) := by decide +kernel
theorem dX4_firstNeededKey_0 : decode cX4_firstNeededKey 0 = .ok (.aload_n 0, 1) := by decide +kernel
theorem dX4_firstNeededKey_1 : decode cX4_firstNeededKey 1 = .ok (.getfield 50, 3) := by decide +kernel
theorem dX4_firstNeededKey_4 : decode cX4_firstNeededKey 4 = .ok (.aload_n 0, 1) := by decide +kernel
theorem dX4_firstNeededKey_5 : decode cX4_firstNeededKey 5 = .ok (.getfield 47, 3) := by decide +kernel
theorem dX4_firstNeededKey_8 : decode cX4_firstNeededKey 8 = .ok (.if_icmp .ge 18, 3) := by decide +kernel
theorem dX4_firstNeededKey_11 : decode cX4_firstNeededKey 11 = .ok (.aload_n 0, 1) := by decide +kernel
theorem dX4_firstNeededKey_12 : decode cX4_firstNeededKey 12 = .ok (.getfield 15, 3) := by decide +kernel
theorem dX4_firstNeededKey_15 : decode cX4_firstNeededKey 15 = .ok (.aload_n 0, 1) := by decide +kernel
theorem dX4_firstNeededKey_16 : decode cX4_firstNeededKey 16 = .ok (.getfield 50, 3) := by decide +kernel
theorem dX4_firstNeededKey_19 : decode cX4_firstNeededKey 19 = .ok (.invokestatic 80, 3) := by decide +kernel
theorem dX4_firstNeededKey_22 : decode cX4_firstNeededKey 22 = .ok (.iaload, 1) := by decide +kernel
theorem dX4_firstNeededKey_23 : decode cX4_firstNeededKey 23 = .ok (.goto 7, 3) := by decide +kernel
theorem dX4_firstNeededKey_26 : decode cX4_firstNeededKey 26 = .ok (.aload_n 0, 1) := by decide +kernel
theorem dX4_firstNeededKey_27 : decode cX4_firstNeededKey 27 = .ok (.getfield 53, 3) := by decide +kernel
theorem dX4_firstNeededKey_30 : decode cX4_firstNeededKey 30 = .ok (.ireturn, 1) := by decide +kernel
theorem dX5_init_0 : decode cX5_init 0 = .ok (.aload_n 0, 1) := by decide +kernel
theorem dX5_init_1 : decode cX5_init 1 = .ok (.invokespecial 3, 3) := by decide +kernel
theorem dX5_init_4 : decode cX5_init 4 = .ok (.aload_n 0, 1) := by decide +kernel
theorem dX5_init_5 : decode cX5_init 5 = .ok (.bipush 8, 2) := by decide +kernel
theorem dX5_init_7 : decode cX5_init 7 = .ok (.newarray .int, 2) := by decide +kernel
theorem dX5_init_9 : decode cX5_init 9 = .ok (.putfield 9, 3) := by decide +kernel
theorem dX5_init_12 : decode cX5_init 12 = .ok (.aload_n 0, 1) := by decide +kernel
theorem dX5_init_13 : decode cX5_init 13 = .ok (.bipush 8, 2) := by decide +kernel
theorem dX5_init_15 : decode cX5_init 15 = .ok (.newarray .int, 2) := by decide +kernel
theorem dX5_init_17 : decode cX5_init 17 = .ok (.putfield 15, 3) := by decide +kernel
theorem dX5_init_20 : decode cX5_init 20 = .ok (.aload_n 0, 1) := by decide +kernel
theorem dX5_init_21 : decode cX5_init 21 = .ok (.bipush 6, 2) := by decide +kernel
theorem dX5_init_23 : decode cX5_init 23 = .ok (.anewarray 18, 3) := by decide +kernel
theorem dX5_init_26 : decode cX5_init 26 = .ok (.putfield 20, 3) := by decide +kernel
theorem dX5_init_29 : decode cX5_init 29 = .ok (.iconst 0, 1) := by decide +kernel
theorem dX5_init_30 : decode cX5_init 30 = .ok (.istore_n 1, 1) := by decide +kernel
theorem dX5_init_31 : decode cX5_init 31 = .ok (.iload_n 1, 1) := by decide +kernel
theorem dX5_init_32 : decode cX5_init 32 = .ok (.bipush 6, 2) := by decide +kernel
theorem dX5_init_34 : decode cX5_init 34 = .ok (.if_icmp .ge 22, 3) := by decide +kernel
theorem dX5_init_37 : decode cX5_init 37 = .ok (.aload_n 0, 1) := by decide +kernel
theorem dX5_init_38 : decode cX5_init 38 = .ok (.getfield 20, 3) := by decide +kernel
theorem dX5_init_41 : decode cX5_init 41 = .ok (.iload_n 1, 1) := by decide +kernel
theorem dX5_init_42 : decode cX5_init 42 = .ok (.new 18, 3) := by decide +kernel
theorem dX5_init_45 : decode cX5_init 45 = .ok (.dup, 1) := by decide +kernel
theorem dX5_init_46 : decode cX5_init 46 = .ok (.invokespecial 24, 3) := by decide +kernel
theorem dX5_init_49 : decode cX5_init 49 = .ok (.aastore, 1) := by decide +kernel
theorem dX5_init_50 : decode cX5_init 50 = .ok (.iinc 1 1, 3) := by decide +kernel
theorem dX5_init_53 : decode cX5_init 53 = .ok (.goto (-22), 3) := by decide +kernel
theorem dX5_init_56 : decode cX5_init 56 = .ok (.return_, 1) := by decide +kernel
theorem dX5_copyFrom_0 : decode cX5_copyFrom 0 = .ok (.aload_n 0, 1) := by decide +kernel
theorem dX5_copyFrom_1 : decode cX5_copyFrom 1 = .ok (.aload_n 1, 1) := by decide +kernel
theorem dX5_copyFrom_2 : decode cX5_copyFrom 2 = .ok (.getfield 25, 3) := by decide +kernel
theorem dX5_copyFrom_5 : decode cX5_copyFrom 5 = .ok (.putfield 25, 3) := by decide +kernel
theorem dX5_copyFrom_8 : decode cX5_copyFrom 8 = .ok (.aload_n 1, 1) := by decide +kernel
theorem dX5_copyFrom_9 : decode cX5_copyFrom 9 = .ok (.getfield 9, 3) := by decide +kernel
theorem dX5_copyFrom_12 : decode cX5_copyFrom 12 = .ok (.iconst 0, 1) := by decide +kernel
theorem dX5_copyFrom_13 : decode cX5_copyFrom 13 = .ok (.aload_n 0, 1) := by decide +kernel
theorem dX5_copyFrom_14 : decode cX5_copyFrom 14 = .ok (.getfield 9, 3) := by decide +kernel
theorem dX5_copyFrom_17 : decode cX5_copyFrom 17 = .ok (.iconst 0, 1) := by decide +kernel
theorem dX5_copyFrom_18 : decode cX5_copyFrom 18 = .ok (.bipush 8, 2) := by decide +kernel
theorem dX5_copyFrom_20 : decode cX5_copyFrom 20 = .ok (.invokestatic 29, 3) := by decide +kernel
theorem dX5_copyFrom_23 : decode cX5_copyFrom 23 = .ok (.aload_n 1, 1) := by decide +kernel
theorem dX5_copyFrom_24 : decode cX5_copyFrom 24 = .ok (.getfield 15, 3) := by decide +kernel
theorem dX5_copyFrom_27 : decode cX5_copyFrom 27 = .ok (.iconst 0, 1) := by decide +kernel
theorem dX5_copyFrom_28 : decode cX5_copyFrom 28 = .ok (.aload_n 0, 1) := by decide +kernel
theorem dX5_copyFrom_29 : decode cX5_copyFrom 29 = .ok (.getfield 15, 3) := by decide +kernel
theorem dX5_copyFrom_32 : decode cX5_copyFrom 32 = .ok (.iconst 0, 1) := by decide +kernel
theorem dX5_copyFrom_33 : decode cX5_copyFrom 33 = .ok (.bipush 8, 2) := by decide +kernel
theorem dX5_copyFrom_35 : decode cX5_copyFrom 35 = .ok (.invokestatic 29, 3) := by decide +kernel
theorem dX5_copyFrom_38 : decode cX5_copyFrom 38 = .ok (.iconst 0, 1) := by decide +kernel
theorem dX5_copyFrom_39 : decode cX5_copyFrom 39 = .ok (.istore_n 2, 1) := by decide +kernel
theorem dX5_copyFrom_40 : decode cX5_copyFrom 40 = .ok (.iload_n 2, 1) := by decide +kernel
theorem dX5_copyFrom_41 : decode cX5_copyFrom 41 = .ok (.bipush 6, 2) := by decide +kernel
theorem dX5_copyFrom_43 : decode cX5_copyFrom 43 = .ok (.if_icmp .ge 24, 3) := by decide +kernel
theorem dX5_copyFrom_46 : decode cX5_copyFrom 46 = .ok (.aload_n 0, 1) := by decide +kernel
theorem dX5_copyFrom_47 : decode cX5_copyFrom 47 = .ok (.getfield 20, 3) := by decide +kernel
theorem dX5_copyFrom_50 : decode cX5_copyFrom 50 = .ok (.iload_n 2, 1) := by decide +kernel
theorem dX5_copyFrom_51 : decode cX5_copyFrom 51 = .ok (.aaload, 1) := by decide +kernel
theorem dX5_copyFrom_52 : decode cX5_copyFrom 52 = .ok (.aload_n 1, 1) := by decide +kernel
theorem dX5_copyFrom_53 : decode cX5_copyFrom 53 = .ok (.getfield 20, 3) := by decide +kernel
theorem dX5_copyFrom_56 : decode cX5_copyFrom 56 = .ok (.iload_n 2, 1) := by decide +kernel
theorem dX5_copyFrom_57 : decode cX5_copyFrom 57 = .ok (.aaload, 1) := by decide +kernel
theorem dX5_copyFrom_58 : decode cX5_copyFrom 58 = .ok (.invokevirtual 35, 3) := by decide +kernel
theorem dX5_copyFrom_61 : decode cX5_copyFrom 61 = .ok (.iinc 2 1, 3) := by decide +kernel
theorem dX5_copyFrom_64 : decode cX5_copyFrom 64 = .ok (.goto (-24), 3) := by decide +kernel
theorem dX5_copyFrom_67 : decode cX5_copyFrom 67 = .ok (.return_, 1) := by decide +kernel
theorem dX5_beginWith_0 : decode cX5_beginWith 0 = .ok (.aload_n 0, 1) := by decide +kernel
theorem dX5_beginWith_1 : decode cX5_beginWith 1 = .ok (.iconst 0, 1) := by decide +kernel
theorem dX5_beginWith_2 : decode cX5_beginWith 2 = .ok (.putfield 25, 3) := by decide +kernel
theorem dX5_beginWith_5 : decode cX5_beginWith 5 = .ok (.iconst 0, 1) := by decide +kernel
theorem dX5_beginWith_6 : decode cX5_beginWith 6 = .ok (.istore_n 2, 1) := by decide +kernel
theorem dX5_beginWith_7 : decode cX5_beginWith 7 = .ok (.iload_n 2, 1) := by decide +kernel
theorem dX5_beginWith_8 : decode cX5_beginWith 8 = .ok (.bipush 8, 2) := by decide +kernel
theorem dX5_beginWith_10 : decode cX5_beginWith 10 = .ok (.if_icmp .ge 63, 3) := by decide +kernel
theorem dX5_beginWith_13 : decode cX5_beginWith 13 = .ok (.aload_n 0, 1) := by decide +kernel
theorem dX5_beginWith_14 : decode cX5_beginWith 14 = .ok (.getfield 15, 3) := by decide +kernel
theorem dX5_beginWith_17 : decode cX5_beginWith 17 = .ok (.iload_n 2, 1) := by decide +kernel
theorem dX5_beginWith_18 : decode cX5_beginWith 18 = .ok (.aload_n 1, 1) := by decide +kernel
theorem dX5_beginWith_19 : decode cX5_beginWith 19 = .ok (.getfield 39, 3) := by decide +kernel
theorem dX5_beginWith_22 : decode cX5_beginWith 22 = .ok (.iload_n 2, 1) := by decide +kernel
theorem dX5_beginWith_23 : decode cX5_beginWith 23 = .ok (.iaload, 1) := by decide +kernel
theorem dX5_beginWith_24 : decode cX5_beginWith 24 = .ok (.iastore, 1) := by decide +kernel
theorem dX5_beginWith_25 : decode cX5_beginWith 25 = .ok (.aload_n 0, 1) := by decide +kernel
theorem dX5_beginWith_26 : decode cX5_beginWith 26 = .ok (.getfield 9, 3) := by decide +kernel
theorem dX5_beginWith_29 : decode cX5_beginWith 29 = .ok (.iload_n 2, 1) := by decide +kernel
theorem dX5_beginWith_30 : decode cX5_beginWith 30 = .ok (.iconst 0, 1) := by decide +kernel
theorem dX5_beginWith_31 : decode cX5_beginWith 31 = .ok (.iastore, 1) := by decide +kernel
theorem dX5_beginWith_32 : decode cX5_beginWith 32 = .ok (.iconst 0, 1) := by decide +kernel
theorem dX5_beginWith_33 : decode cX5_beginWith 33 = .ok (.istore_n 3, 1) := by decide +kernel
theorem dX5_beginWith_34 : decode cX5_beginWith 34 = .ok (.iload_n 3, 1) := by decide +kernel
theorem dX5_beginWith_35 : decode cX5_beginWith 35 = .ok (.bipush 8, 2) := by decide +kernel
theorem dX5_beginWith_37 : decode cX5_beginWith 37 = .ok (.if_icmp .ge 30, 3) := by decide +kernel
theorem dX5_beginWith_40 : decode cX5_beginWith 40 = .ok (.aload_n 1, 1) := by decide +kernel
theorem dX5_beginWith_41 : decode cX5_beginWith 41 = .ok (.iload_n 2, 1) := by decide +kernel
theorem dX5_beginWith_42 : decode cX5_beginWith 42 = .ok (.iload_n 3, 1) := by decide +kernel
theorem dX5_beginWith_43 : decode cX5_beginWith 43 = .ok (.invokevirtual 42, 3) := by decide +kernel
theorem dX5_beginWith_46 : decode cX5_beginWith 46 = .ok (.ifCond .eq 15, 3) := by decide +kernel
theorem dX5_beginWith_49 : decode cX5_beginWith 49 = .ok (.aload_n 0, 1) := by decide +kernel
theorem dX5_beginWith_50 : decode cX5_beginWith 50 = .ok (.getfield 9, 3) := by decide +kernel
theorem dX5_beginWith_53 : decode cX5_beginWith 53 = .ok (.iload_n 2, 1) := by decide +kernel
theorem dX5_beginWith_54 : decode cX5_beginWith 54 = .ok (.dup2, 1) := by decide +kernel
theorem dX5_beginWith_55 : decode cX5_beginWith 55 = .ok (.iaload, 1) := by decide +kernel
theorem dX5_beginWith_56 : decode cX5_beginWith 56 = .ok (.iconst 1, 1) := by decide +kernel
theorem dX5_beginWith_57 : decode cX5_beginWith 57 = .ok (.iload_n 3, 1) := by decide +kernel
theorem dX5_beginWith_58 : decode cX5_beginWith 58 = .ok (.ishl, 1) := by decide +kernel
theorem dX5_beginWith_59 : decode cX5_beginWith 59 = .ok (.ior, 1) := by decide +kernel
theorem dX5_beginWith_60 : decode cX5_beginWith 60 = .ok (.iastore, 1) := by decide +kernel
theorem dX5_beginWith_61 : decode cX5_beginWith 61 = .ok (.iinc 3 1, 3) := by decide +kernel
theorem dX5_beginWith_64 : decode cX5_beginWith 64 = .ok (.goto (-30), 3) := by decide +kernel
theorem dX5_beginWith_67 : decode cX5_beginWith 67 = .ok (.iinc 2 1, 3) := by decide +kernel
theorem dX5_beginWith_70 : decode cX5_beginWith 70 = .ok (.goto (-63), 3) := by decide +kernel
theorem dX5_beginWith_73 : decode cX5_beginWith 73 = .ok (.iconst 0, 1) := by decide +kernel
theorem dX5_beginWith_74 : decode cX5_beginWith 74 = .ok (.istore_n 2, 1) := by decide +kernel
theorem dX5_beginWith_75 : decode cX5_beginWith 75 = .ok (.iload_n 2, 1) := by decide +kernel
theorem dX5_beginWith_76 : decode cX5_beginWith 76 = .ok (.bipush 6, 2) := by decide +kernel
theorem dX5_beginWith_78 : decode cX5_beginWith 78 = .ok (.if_icmp .ge 19, 3) := by decide +kernel
theorem dX5_beginWith_81 : decode cX5_beginWith 81 = .ok (.aload_n 0, 1) := by decide +kernel
theorem dX5_beginWith_82 : decode cX5_beginWith 82 = .ok (.getfield 20, 3) := by decide +kernel
theorem dX5_beginWith_85 : decode cX5_beginWith 85 = .ok (.iload_n 2, 1) := by decide +kernel
theorem dX5_beginWith_86 : decode cX5_beginWith 86 = .ok (.aaload, 1) := by decide +kernel
theorem dX5_beginWith_87 : decode cX5_beginWith 87 = .ok (.iconst 0, 1) := by decide +kernel
theorem dX5_beginWith_88 : decode cX5_beginWith 88 = .ok (.putfield 46, 3) := by decide +kernel
theorem dX5_beginWith_91 : decode cX5_beginWith 91 = .ok (.iinc 2 1, 3) := by decide +kernel
theorem dX5_beginWith_94 : decode cX5_beginWith 94 = .ok (.goto (-19), 3) := by decide +kernel
theorem dX5_beginWith_97 : decode cX5_beginWith 97 = .ok (.return_, 1) := by decide +kernel
theorem dX5_acquainted_0 : decode cX5_acquainted 0 = .ok (.aload_n 0, 1) := by decide +kernel
theorem dX5_acquainted_1 : decode cX5_acquainted 1 = .ok (.getfield 15, 3) := by decide +kernel
theorem dX5_acquainted_4 : decode cX5_acquainted 4 = .ok (.iload_n 1, 1) := by decide +kernel
theorem dX5_acquainted_5 : decode cX5_acquainted 5 = .ok (.iaload, 1) := by decide +kernel
theorem dX5_acquainted_6 : decode cX5_acquainted 6 = .ok (.iload_n 2, 1) := by decide +kernel
theorem dX5_acquainted_7 : decode cX5_acquainted 7 = .ok (.ishr, 1) := by decide +kernel
theorem dX5_acquainted_8 : decode cX5_acquainted 8 = .ok (.iconst 1, 1) := by decide +kernel
theorem dX5_acquainted_9 : decode cX5_acquainted 9 = .ok (.iand, 1) := by decide +kernel
theorem dX5_acquainted_10 : decode cX5_acquainted 10 = .ok (.ifCond .eq 7, 3) := by decide +kernel
theorem dX5_acquainted_13 : decode cX5_acquainted 13 = .ok (.iconst 1, 1) := by decide +kernel
theorem dX5_acquainted_14 : decode cX5_acquainted 14 = .ok (.goto 4, 3) := by decide +kernel
theorem dX5_acquainted_17 : decode cX5_acquainted 17 = .ok (.iconst 0, 1) := by decide +kernel
theorem dX5_acquainted_18 : decode cX5_acquainted 18 = .ok (.ireturn, 1) := by decide +kernel
theorem dX5_acquaint_0 : decode cX5_acquaint 0 = .ok (.aload_n 0, 1) := by decide +kernel
theorem dX5_acquaint_1 : decode cX5_acquaint 1 = .ok (.getfield 15, 3) := by decide +kernel
theorem dX5_acquaint_4 : decode cX5_acquaint 4 = .ok (.iload_n 1, 1) := by decide +kernel
theorem dX5_acquaint_5 : decode cX5_acquaint 5 = .ok (.dup2, 1) := by decide +kernel
theorem dX5_acquaint_6 : decode cX5_acquaint 6 = .ok (.iaload, 1) := by decide +kernel
theorem dX5_acquaint_7 : decode cX5_acquaint 7 = .ok (.iconst 1, 1) := by decide +kernel
theorem dX5_acquaint_8 : decode cX5_acquaint 8 = .ok (.iload_n 2, 1) := by decide +kernel
theorem dX5_acquaint_9 : decode cX5_acquaint 9 = .ok (.ishl, 1) := by decide +kernel
theorem dX5_acquaint_10 : decode cX5_acquaint 10 = .ok (.ior, 1) := by decide +kernel
theorem dX5_acquaint_11 : decode cX5_acquaint 11 = .ok (.iastore, 1) := by decide +kernel
theorem dX5_acquaint_12 : decode cX5_acquaint 12 = .ok (.aload_n 0, 1) := by decide +kernel
theorem dX5_acquaint_13 : decode cX5_acquaint 13 = .ok (.getfield 15, 3) := by decide +kernel
theorem dX5_acquaint_16 : decode cX5_acquaint 16 = .ok (.iload_n 2, 1) := by decide +kernel
theorem dX5_acquaint_17 : decode cX5_acquaint 17 = .ok (.dup2, 1) := by decide +kernel
theorem dX5_acquaint_18 : decode cX5_acquaint 18 = .ok (.iaload, 1) := by decide +kernel
theorem dX5_acquaint_19 : decode cX5_acquaint 19 = .ok (.iconst 1, 1) := by decide +kernel
theorem dX5_acquaint_20 : decode cX5_acquaint 20 = .ok (.iload_n 1, 1) := by decide +kernel
theorem dX5_acquaint_21 : decode cX5_acquaint 21 = .ok (.ishl, 1) := by decide +kernel
theorem dX5_acquaint_22 : decode cX5_acquaint 22 = .ok (.ior, 1) := by decide +kernel
theorem dX5_acquaint_23 : decode cX5_acquaint 23 = .ok (.iastore, 1) := by decide +kernel
theorem dX5_acquaint_24 : decode cX5_acquaint 24 = .ok (.return_, 1) := by decide +kernel
theorem dX5_linkIsUp_0 : decode cX5_linkIsUp 0 = .ok (.aload_n 0, 1) := by decide +kernel
theorem dX5_linkIsUp_1 : decode cX5_linkIsUp 1 = .ok (.getfield 9, 3) := by decide +kernel
theorem dX5_linkIsUp_4 : decode cX5_linkIsUp 4 = .ok (.iload_n 1, 1) := by decide +kernel
theorem dX5_linkIsUp_5 : decode cX5_linkIsUp 5 = .ok (.iaload, 1) := by decide +kernel
theorem dX5_linkIsUp_6 : decode cX5_linkIsUp 6 = .ok (.iload_n 2, 1) := by decide +kernel
theorem dX5_linkIsUp_7 : decode cX5_linkIsUp 7 = .ok (.ishr, 1) := by decide +kernel
theorem dX5_linkIsUp_8 : decode cX5_linkIsUp 8 = .ok (.iconst 1, 1) := by decide +kernel
theorem dX5_linkIsUp_9 : decode cX5_linkIsUp 9 = .ok (.iand, 1) := by decide +kernel
theorem dX5_linkIsUp_10 : decode cX5_linkIsUp 10 = .ok (.ifCond .eq 7, 3) := by decide +kernel
theorem dX5_linkIsUp_13 : decode cX5_linkIsUp 13 = .ok (.iconst 1, 1) := by decide +kernel
theorem dX5_linkIsUp_14 : decode cX5_linkIsUp 14 = .ok (.goto 4, 3) := by decide +kernel
theorem dX5_linkIsUp_17 : decode cX5_linkIsUp 17 = .ok (.iconst 0, 1) := by decide +kernel
theorem dX5_linkIsUp_18 : decode cX5_linkIsUp 18 = .ok (.ireturn, 1) := by decide +kernel
theorem dX5_turnLink_0 : decode cX5_turnLink 0 = .ok (.aload_n 0, 1) := by decide +kernel
theorem dX5_turnLink_1 : decode cX5_turnLink 1 = .ok (.getfield 9, 3) := by decide +kernel
theorem dX5_turnLink_4 : decode cX5_turnLink 4 = .ok (.iload_n 1, 1) := by decide +kernel
theorem dX5_turnLink_5 : decode cX5_turnLink 5 = .ok (.dup2, 1) := by decide +kernel
theorem dX5_turnLink_6 : decode cX5_turnLink 6 = .ok (.iaload, 1) := by decide +kernel
theorem dX5_turnLink_7 : decode cX5_turnLink 7 = .ok (.iconst 1, 1) := by decide +kernel
theorem dX5_turnLink_8 : decode cX5_turnLink 8 = .ok (.iload_n 2, 1) := by decide +kernel
theorem dX5_turnLink_9 : decode cX5_turnLink 9 = .ok (.ishl, 1) := by decide +kernel
theorem dX5_turnLink_10 : decode cX5_turnLink 10 = .ok (.ixor, 1) := by decide +kernel
theorem dX5_turnLink_11 : decode cX5_turnLink 11 = .ok (.iastore, 1) := by decide +kernel
theorem dX5_turnLink_12 : decode cX5_turnLink 12 = .ok (.aload_n 0, 1) := by decide +kernel
theorem dX5_turnLink_13 : decode cX5_turnLink 13 = .ok (.getfield 9, 3) := by decide +kernel
theorem dX5_turnLink_16 : decode cX5_turnLink 16 = .ok (.iload_n 2, 1) := by decide +kernel
theorem dX5_turnLink_17 : decode cX5_turnLink 17 = .ok (.dup2, 1) := by decide +kernel
theorem dX5_turnLink_18 : decode cX5_turnLink 18 = .ok (.iaload, 1) := by decide +kernel
theorem dX5_turnLink_19 : decode cX5_turnLink 19 = .ok (.iconst 1, 1) := by decide +kernel
theorem dX5_turnLink_20 : decode cX5_turnLink 20 = .ok (.iload_n 1, 1) := by decide +kernel
theorem dX5_turnLink_21 : decode cX5_turnLink 21 = .ok (.ishl, 1) := by decide +kernel
theorem dX5_turnLink_22 : decode cX5_turnLink 22 = .ok (.ixor, 1) := by decide +kernel
theorem dX5_turnLink_23 : decode cX5_turnLink 23 = .ok (.iastore, 1) := by decide +kernel
theorem dX5_turnLink_24 : decode cX5_turnLink 24 = .ok (.return_, 1) := by decide +kernel
theorem dX5_stepsBetween_0 : decode cX5_stepsBetween 0 = .ok (.iconst 1, 1) := by decide +kernel
theorem dX5_stepsBetween_1 : decode cX5_stepsBetween 1 = .ok (.iload_n 1, 1) := by decide +kernel
theorem dX5_stepsBetween_2 : decode cX5_stepsBetween 2 = .ok (.ishl, 1) := by decide +kernel
theorem dX5_stepsBetween_3 : decode cX5_stepsBetween 3 = .ok (.istore_n 3, 1) := by decide +kernel
theorem dX5_stepsBetween_4 : decode cX5_stepsBetween 4 = .ok (.iconst 1, 1) := by decide +kernel
theorem dX5_stepsBetween_5 : decode cX5_stepsBetween 5 = .ok (.istore 4, 2) := by decide +kernel
theorem dX5_stepsBetween_7 : decode cX5_stepsBetween 7 = .ok (.iload 4, 2) := by decide +kernel
theorem dX5_stepsBetween_9 : decode cX5_stepsBetween 9 = .ok (.bipush 8, 2) := by decide +kernel
theorem dX5_stepsBetween_11 : decode cX5_stepsBetween 11 = .ok (.if_icmp .ge 63, 3) := by decide +kernel
theorem dX5_stepsBetween_14 : decode cX5_stepsBetween 14 = .ok (.iload_n 3, 1) := by decide +kernel
theorem dX5_stepsBetween_15 : decode cX5_stepsBetween 15 = .ok (.istore 5, 2) := by decide +kernel
theorem dX5_stepsBetween_17 : decode cX5_stepsBetween 17 = .ok (.iconst 0, 1) := by decide +kernel
theorem dX5_stepsBetween_18 : decode cX5_stepsBetween 18 = .ok (.istore 6, 2) := by decide +kernel
theorem dX5_stepsBetween_20 : decode cX5_stepsBetween 20 = .ok (.iload 6, 2) := by decide +kernel
theorem dX5_stepsBetween_22 : decode cX5_stepsBetween 22 = .ok (.bipush 8, 2) := by decide +kernel
theorem dX5_stepsBetween_24 : decode cX5_stepsBetween 24 = .ok (.if_icmp .ge 30, 3) := by decide +kernel
theorem dX5_stepsBetween_27 : decode cX5_stepsBetween 27 = .ok (.iload_n 3, 1) := by decide +kernel
theorem dX5_stepsBetween_28 : decode cX5_stepsBetween 28 = .ok (.iload 6, 2) := by decide +kernel
theorem dX5_stepsBetween_30 : decode cX5_stepsBetween 30 = .ok (.ishr, 1) := by decide +kernel
theorem dX5_stepsBetween_31 : decode cX5_stepsBetween 31 = .ok (.iconst 1, 1) := by decide +kernel
theorem dX5_stepsBetween_32 : decode cX5_stepsBetween 32 = .ok (.iand, 1) := by decide +kernel
theorem dX5_stepsBetween_33 : decode cX5_stepsBetween 33 = .ok (.ifCond .eq 15, 3) := by decide +kernel
theorem dX5_stepsBetween_36 : decode cX5_stepsBetween 36 = .ok (.iload 5, 2) := by decide +kernel
theorem dX5_stepsBetween_38 : decode cX5_stepsBetween 38 = .ok (.aload_n 0, 1) := by decide +kernel
theorem dX5_stepsBetween_39 : decode cX5_stepsBetween 39 = .ok (.getfield 15, 3) := by decide +kernel
theorem dX5_stepsBetween_42 : decode cX5_stepsBetween 42 = .ok (.iload 6, 2) := by decide +kernel
theorem dX5_stepsBetween_44 : decode cX5_stepsBetween 44 = .ok (.iaload, 1) := by decide +kernel
theorem dX5_stepsBetween_45 : decode cX5_stepsBetween 45 = .ok (.ior, 1) := by decide +kernel
theorem dX5_stepsBetween_46 : decode cX5_stepsBetween 46 = .ok (.istore 5, 2) := by decide +kernel
theorem dX5_stepsBetween_48 : decode cX5_stepsBetween 48 = .ok (.iinc 6 1, 3) := by decide +kernel
theorem dX5_stepsBetween_51 : decode cX5_stepsBetween 51 = .ok (.goto (-31), 3) := by decide +kernel
theorem dX5_stepsBetween_54 : decode cX5_stepsBetween 54 = .ok (.iload 5, 2) := by decide +kernel
theorem dX5_stepsBetween_56 : decode cX5_stepsBetween 56 = .ok (.istore_n 3, 1) := by decide +kernel
theorem dX5_stepsBetween_57 : decode cX5_stepsBetween 57 = .ok (.iload_n 3, 1) := by decide +kernel
theorem dX5_stepsBetween_58 : decode cX5_stepsBetween 58 = .ok (.iload_n 2, 1) := by decide +kernel
theorem dX5_stepsBetween_59 : decode cX5_stepsBetween 59 = .ok (.ishr, 1) := by decide +kernel
theorem dX5_stepsBetween_60 : decode cX5_stepsBetween 60 = .ok (.iconst 1, 1) := by decide +kernel
theorem dX5_stepsBetween_61 : decode cX5_stepsBetween 61 = .ok (.iand, 1) := by decide +kernel
theorem dX5_stepsBetween_62 : decode cX5_stepsBetween 62 = .ok (.ifCond .eq 6, 3) := by decide +kernel
theorem dX5_stepsBetween_65 : decode cX5_stepsBetween 65 = .ok (.iload 4, 2) := by decide +kernel
theorem dX5_stepsBetween_67 : decode cX5_stepsBetween 67 = .ok (.ireturn, 1) := by decide +kernel
theorem dX5_stepsBetween_68 : decode cX5_stepsBetween 68 = .ok (.iinc 4 1, 3) := by decide +kernel
theorem dX5_stepsBetween_71 : decode cX5_stepsBetween 71 = .ok (.goto (-64), 3) := by decide +kernel
theorem dX5_stepsBetween_74 : decode cX5_stepsBetween 74 = .ok (.iconst (-1), 1) := by decide +kernel
theorem dX5_stepsBetween_75 : decode cX5_stepsBetween 75 = .ok (.ireturn, 1) := by decide +kernel
theorem dX5_findSession_0 : decode cX5_findSession 0 = .ok (.iconst 0, 1) := by decide +kernel
theorem dX5_findSession_1 : decode cX5_findSession 1 = .ok (.istore_n 3, 1) := by decide +kernel
theorem dX5_findSession_2 : decode cX5_findSession 2 = .ok (.iload_n 3, 1) := by decide +kernel
theorem dX5_findSession_3 : decode cX5_findSession 3 = .ok (.bipush 6, 2) := by decide +kernel
theorem dX5_findSession_5 : decode cX5_findSession 5 = .ok (.if_icmp .ge 45, 3) := by decide +kernel
theorem dX5_findSession_8 : decode cX5_findSession 8 = .ok (.aload_n 0, 1) := by decide +kernel
theorem dX5_findSession_9 : decode cX5_findSession 9 = .ok (.getfield 20, 3) := by decide +kernel
theorem dX5_findSession_12 : decode cX5_findSession 12 = .ok (.iload_n 3, 1) := by decide +kernel
theorem dX5_findSession_13 : decode cX5_findSession 13 = .ok (.aaload, 1) := by decide +kernel
theorem dX5_findSession_14 : decode cX5_findSession 14 = .ok (.astore 4, 2) := by decide +kernel
theorem dX5_findSession_16 : decode cX5_findSession 16 = .ok (.aload 4, 2) := by decide +kernel
theorem dX5_findSession_18 : decode cX5_findSession 18 = .ok (.getfield 46, 3) := by decide +kernel
theorem dX5_findSession_21 : decode cX5_findSession 21 = .ok (.ifCond .eq 23, 3) := by decide +kernel
theorem dX5_findSession_24 : decode cX5_findSession 24 = .ok (.aload 4, 2) := by decide +kernel
theorem dX5_findSession_26 : decode cX5_findSession 26 = .ok (.getfield 50, 3) := by decide +kernel
theorem dX5_findSession_29 : decode cX5_findSession 29 = .ok (.iload_n 1, 1) := by decide +kernel
theorem dX5_findSession_30 : decode cX5_findSession 30 = .ok (.if_icmp .ne 14, 3) := by decide +kernel
theorem dX5_findSession_33 : decode cX5_findSession 33 = .ok (.aload 4, 2) := by decide +kernel
theorem dX5_findSession_35 : decode cX5_findSession 35 = .ok (.getfield 53, 3) := by decide +kernel
theorem dX5_findSession_38 : decode cX5_findSession 38 = .ok (.iload_n 2, 1) := by decide +kernel
theorem dX5_findSession_39 : decode cX5_findSession 39 = .ok (.if_icmp .ne 5, 3) := by decide +kernel
theorem dX5_findSession_42 : decode cX5_findSession 42 = .ok (.iload_n 3, 1) := by decide +kernel
theorem dX5_findSession_43 : decode cX5_findSession 43 = .ok (.ireturn, 1) := by decide +kernel
theorem dX5_findSession_44 : decode cX5_findSession 44 = .ok (.iinc 3 1, 3) := by decide +kernel
theorem dX5_findSession_47 : decode cX5_findSession 47 = .ok (.goto (-45), 3) := by decide +kernel
theorem dX5_findSession_50 : decode cX5_findSession 50 = .ok (.iconst (-1), 1) := by decide +kernel
theorem dX5_findSession_51 : decode cX5_findSession 51 = .ok (.ireturn, 1) := by decide +kernel
theorem dX5_freeSession_0 : decode cX5_freeSession 0 = .ok (.iconst 0, 1) := by decide +kernel
theorem dX5_freeSession_1 : decode cX5_freeSession 1 = .ok (.istore_n 1, 1) := by decide +kernel
theorem dX5_freeSession_2 : decode cX5_freeSession 2 = .ok (.iload_n 1, 1) := by decide +kernel
theorem dX5_freeSession_3 : decode cX5_freeSession 3 = .ok (.bipush 6, 2) := by decide +kernel
theorem dX5_freeSession_5 : decode cX5_freeSession 5 = .ok (.if_icmp .ge 23, 3) := by decide +kernel
theorem dX5_freeSession_8 : decode cX5_freeSession 8 = .ok (.aload_n 0, 1) := by decide +kernel
theorem dX5_freeSession_9 : decode cX5_freeSession 9 = .ok (.getfield 20, 3) := by decide +kernel
theorem dX5_freeSession_12 : decode cX5_freeSession 12 = .ok (.iload_n 1, 1) := by decide +kernel
theorem dX5_freeSession_13 : decode cX5_freeSession 13 = .ok (.aaload, 1) := by decide +kernel
theorem dX5_freeSession_14 : decode cX5_freeSession 14 = .ok (.getfield 46, 3) := by decide +kernel
theorem dX5_freeSession_17 : decode cX5_freeSession 17 = .ok (.ifCond .ne 5, 3) := by decide +kernel
theorem dX5_freeSession_20 : decode cX5_freeSession 20 = .ok (.iload_n 1, 1) := by decide +kernel
theorem dX5_freeSession_21 : decode cX5_freeSession 21 = .ok (.ireturn, 1) := by decide +kernel
theorem dX5_freeSession_22 : decode cX5_freeSession 22 = .ok (.iinc 1 1, 3) := by decide +kernel
theorem dX5_freeSession_25 : decode cX5_freeSession 25 = .ok (.goto (-23), 3) := by decide +kernel
theorem dX5_freeSession_28 : decode cX5_freeSession 28 = .ok (.iconst (-1), 1) := by decide +kernel
theorem dX5_freeSession_29 : decode cX5_freeSession 29 = .ok (.ireturn, 1) := by decide +kernel
theorem dX5_loadOf_0 : decode cX5_loadOf 0 = .ok (.iconst 0, 1) := by decide +kernel
theorem dX5_loadOf_1 : decode cX5_loadOf 1 = .ok (.istore_n 2, 1) := by decide +kernel
theorem dX5_loadOf_2 : decode cX5_loadOf 2 = .ok (.iconst 0, 1) := by decide +kernel
theorem dX5_loadOf_3 : decode cX5_loadOf 3 = .ok (.istore_n 3, 1) := by decide +kernel
theorem dX5_loadOf_4 : decode cX5_loadOf 4 = .ok (.iload_n 3, 1) := by decide +kernel
theorem dX5_loadOf_5 : decode cX5_loadOf 5 = .ok (.bipush 6, 2) := by decide +kernel
theorem dX5_loadOf_7 : decode cX5_loadOf 7 = .ok (.if_icmp .ge 25, 3) := by decide +kernel
theorem dX5_loadOf_10 : decode cX5_loadOf 10 = .ok (.aload_n 0, 1) := by decide +kernel
theorem dX5_loadOf_11 : decode cX5_loadOf 11 = .ok (.getfield 20, 3) := by decide +kernel
theorem dX5_loadOf_14 : decode cX5_loadOf 14 = .ok (.iload_n 3, 1) := by decide +kernel
theorem dX5_loadOf_15 : decode cX5_loadOf 15 = .ok (.aaload, 1) := by decide +kernel
theorem dX5_loadOf_16 : decode cX5_loadOf 16 = .ok (.iload_n 1, 1) := by decide +kernel
theorem dX5_loadOf_17 : decode cX5_loadOf 17 = .ok (.invokevirtual 56, 3) := by decide +kernel
theorem dX5_loadOf_20 : decode cX5_loadOf 20 = .ok (.ifCond .eq 6, 3) := by decide +kernel
theorem dX5_loadOf_23 : decode cX5_loadOf 23 = .ok (.iinc 2 1, 3) := by decide +kernel
theorem dX5_loadOf_26 : decode cX5_loadOf 26 = .ok (.iinc 3 1, 3) := by decide +kernel
theorem dX5_loadOf_29 : decode cX5_loadOf 29 = .ok (.goto (-25), 3) := by decide +kernel
theorem dX5_loadOf_32 : decode cX5_loadOf 32 = .ok (.iload_n 2, 1) := by decide +kernel
theorem dX5_loadOf_33 : decode cX5_loadOf 33 = .ok (.ireturn, 1) := by decide +kernel
theorem dX5_canRelay_0 : decode cX5_canRelay 0 = .ok (.iload_n 1, 1) := by decide +kernel
theorem dX5_canRelay_1 : decode cX5_canRelay 1 = .ok (.iload_n 2, 1) := by decide +kernel
theorem dX5_canRelay_2 : decode cX5_canRelay 2 = .ok (.if_icmp .eq 48, 3) := by decide +kernel
theorem dX5_canRelay_5 : decode cX5_canRelay 5 = .ok (.iload_n 1, 1) := by decide +kernel
theorem dX5_canRelay_6 : decode cX5_canRelay 6 = .ok (.iload_n 3, 1) := by decide +kernel
theorem dX5_canRelay_7 : decode cX5_canRelay 7 = .ok (.if_icmp .eq 43, 3) := by decide +kernel
theorem dX5_canRelay_10 : decode cX5_canRelay 10 = .ok (.aload_n 0, 1) := by decide +kernel
theorem dX5_canRelay_11 : decode cX5_canRelay 11 = .ok (.iload_n 1, 1) := by decide +kernel
theorem dX5_canRelay_12 : decode cX5_canRelay 12 = .ok (.iload_n 2, 1) := by decide +kernel
theorem dX5_canRelay_13 : decode cX5_canRelay 13 = .ok (.invokevirtual 60, 3) := by decide +kernel
theorem dX5_canRelay_16 : decode cX5_canRelay 16 = .ok (.ifCond .eq 34, 3) := by decide +kernel
theorem dX5_canRelay_19 : decode cX5_canRelay 19 = .ok (.aload_n 0, 1) := by decide +kernel
theorem dX5_canRelay_20 : decode cX5_canRelay 20 = .ok (.iload_n 1, 1) := by decide +kernel
theorem dX5_canRelay_21 : decode cX5_canRelay 21 = .ok (.iload_n 3, 1) := by decide +kernel
theorem dX5_canRelay_22 : decode cX5_canRelay 22 = .ok (.invokevirtual 60, 3) := by decide +kernel
theorem dX5_canRelay_25 : decode cX5_canRelay 25 = .ok (.ifCond .eq 25, 3) := by decide +kernel
theorem dX5_canRelay_28 : decode cX5_canRelay 28 = .ok (.aload_n 0, 1) := by decide +kernel
theorem dX5_canRelay_29 : decode cX5_canRelay 29 = .ok (.iload_n 1, 1) := by decide +kernel
theorem dX5_canRelay_30 : decode cX5_canRelay 30 = .ok (.iload_n 2, 1) := by decide +kernel
theorem dX5_canRelay_31 : decode cX5_canRelay 31 = .ok (.invokevirtual 64, 3) := by decide +kernel
theorem dX5_canRelay_34 : decode cX5_canRelay 34 = .ok (.ifCond .eq 16, 3) := by decide +kernel
theorem dX5_canRelay_37 : decode cX5_canRelay 37 = .ok (.aload_n 0, 1) := by decide +kernel
theorem dX5_canRelay_38 : decode cX5_canRelay 38 = .ok (.iload_n 1, 1) := by decide +kernel
theorem dX5_canRelay_39 : decode cX5_canRelay 39 = .ok (.iload_n 3, 1) := by decide +kernel
theorem dX5_canRelay_40 : decode cX5_canRelay 40 = .ok (.invokevirtual 64, 3) := by decide +kernel
theorem dX5_canRelay_43 : decode cX5_canRelay 43 = .ok (.ifCond .eq 7, 3) := by decide +kernel
theorem dX5_canRelay_46 : decode cX5_canRelay 46 = .ok (.iconst 1, 1) := by decide +kernel
theorem dX5_canRelay_47 : decode cX5_canRelay 47 = .ok (.goto 4, 3) := by decide +kernel
theorem dX5_canRelay_50 : decode cX5_canRelay 50 = .ok (.iconst 0, 1) := by decide +kernel
theorem dX5_canRelay_51 : decode cX5_canRelay 51 = .ok (.ireturn, 1) := by decide +kernel
theorem dX5_scoreOf_0 : decode cX5_scoreOf 0 = .ok (.aload_n 1, 1) := by decide +kernel
theorem dX5_scoreOf_1 : decode cX5_scoreOf 1 = .ok (.getfield 67, 3) := by decide +kernel
theorem dX5_scoreOf_4 : decode cX5_scoreOf 4 = .ok (.aload_n 1, 1) := by decide +kernel
theorem dX5_scoreOf_5 : decode cX5_scoreOf 5 = .ok (.iload_n 3, 1) := by decide +kernel
theorem dX5_scoreOf_6 : decode cX5_scoreOf 6 = .ok (.iload_n 2, 1) := by decide +kernel
theorem dX5_scoreOf_7 : decode cX5_scoreOf 7 = .ok (.invokevirtual 42, 3) := by decide +kernel
theorem dX5_scoreOf_10 : decode cX5_scoreOf 10 = .ok (.aload_n 1, 1) := by decide +kernel
theorem dX5_scoreOf_11 : decode cX5_scoreOf 11 = .ok (.iload_n 2, 1) := by decide +kernel
theorem dX5_scoreOf_12 : decode cX5_scoreOf 12 = .ok (.iload 4, 2) := by decide +kernel
theorem dX5_scoreOf_14 : decode cX5_scoreOf 14 = .ok (.invokevirtual 42, 3) := by decide +kernel
theorem dX5_scoreOf_17 : decode cX5_scoreOf 17 = .ok (.aload_n 0, 1) := by decide +kernel
theorem dX5_scoreOf_18 : decode cX5_scoreOf 18 = .ok (.iload_n 2, 1) := by decide +kernel
theorem dX5_scoreOf_19 : decode cX5_scoreOf 19 = .ok (.invokevirtual 71, 3) := by decide +kernel
theorem dX5_scoreOf_22 : decode cX5_scoreOf 22 = .ok (.aload_n 1, 1) := by decide +kernel
theorem dX5_scoreOf_23 : decode cX5_scoreOf 23 = .ok (.getfield 75, 3) := by decide +kernel
theorem dX5_scoreOf_26 : decode cX5_scoreOf 26 = .ok (.iload_n 2, 1) := by decide +kernel
theorem dX5_scoreOf_27 : decode cX5_scoreOf 27 = .ok (.iaload, 1) := by decide +kernel
theorem dX5_scoreOf_28 : decode cX5_scoreOf 28 = .ok (.aload_n 1, 1) := by decide +kernel
theorem dX5_scoreOf_29 : decode cX5_scoreOf 29 = .ok (.iload_n 2, 1) := by decide +kernel
theorem dX5_scoreOf_30 : decode cX5_scoreOf 30 = .ok (.iload_n 3, 1) := by decide +kernel
theorem dX5_scoreOf_31 : decode cX5_scoreOf 31 = .ok (.iload 4, 2) := by decide +kernel
theorem dX5_scoreOf_33 : decode cX5_scoreOf 33 = .ok (.invokevirtual 78, 3) := by decide +kernel
theorem dX5_scoreOf_36 : decode cX5_scoreOf 36 = .ok (.invokevirtual 82, 3) := by decide +kernel
theorem dX5_scoreOf_39 : decode cX5_scoreOf 39 = .ok (.ireturn, 1) := by decide +kernel
theorem dX5_chooseRelay_0 : decode cX5_chooseRelay 0 = .ok (.iconst (-1), 1) := by decide +kernel
theorem dX5_chooseRelay_1 : decode cX5_chooseRelay 1 = .ok (.istore 4, 2) := by decide +kernel
theorem dX5_chooseRelay_3 : decode cX5_chooseRelay 3 = .ok (.iconst 0, 1) := by decide +kernel
theorem dX5_chooseRelay_4 : decode cX5_chooseRelay 4 = .ok (.istore 5, 2) := by decide +kernel
theorem dX5_chooseRelay_6 : decode cX5_chooseRelay 6 = .ok (.iconst 0, 1) := by decide +kernel
theorem dX5_chooseRelay_7 : decode cX5_chooseRelay 7 = .ok (.istore 6, 2) := by decide +kernel
theorem dX5_chooseRelay_9 : decode cX5_chooseRelay 9 = .ok (.iload 6, 2) := by decide +kernel
theorem dX5_chooseRelay_11 : decode cX5_chooseRelay 11 = .ok (.aload_n 1, 1) := by decide +kernel
theorem dX5_chooseRelay_12 : decode cX5_chooseRelay 12 = .ok (.getfield 88, 3) := by decide +kernel
theorem dX5_chooseRelay_15 : decode cX5_chooseRelay 15 = .ok (.if_icmp .ge 68, 3) := by decide +kernel
theorem dX5_chooseRelay_18 : decode cX5_chooseRelay 18 = .ok (.aload_n 0, 1) := by decide +kernel
theorem dX5_chooseRelay_19 : decode cX5_chooseRelay 19 = .ok (.iload 6, 2) := by decide +kernel
theorem dX5_chooseRelay_21 : decode cX5_chooseRelay 21 = .ok (.iload_n 2, 1) := by decide +kernel
theorem dX5_chooseRelay_22 : decode cX5_chooseRelay 22 = .ok (.iload_n 3, 1) := by decide +kernel
theorem dX5_chooseRelay_23 : decode cX5_chooseRelay 23 = .ok (.invokevirtual 91, 3) := by decide +kernel
theorem dX5_chooseRelay_26 : decode cX5_chooseRelay 26 = .ok (.ifCond .eq 51, 3) := by decide +kernel
theorem dX5_chooseRelay_29 : decode cX5_chooseRelay 29 = .ok (.aload_n 0, 1) := by decide +kernel
theorem dX5_chooseRelay_30 : decode cX5_chooseRelay 30 = .ok (.iload 6, 2) := by decide +kernel
theorem dX5_chooseRelay_32 : decode cX5_chooseRelay 32 = .ok (.invokevirtual 71, 3) := by decide +kernel
theorem dX5_chooseRelay_35 : decode cX5_chooseRelay 35 = .ok (.aload_n 1, 1) := by decide +kernel
theorem dX5_chooseRelay_36 : decode cX5_chooseRelay 36 = .ok (.getfield 75, 3) := by decide +kernel
theorem dX5_chooseRelay_39 : decode cX5_chooseRelay 39 = .ok (.iload 6, 2) := by decide +kernel
theorem dX5_chooseRelay_41 : decode cX5_chooseRelay 41 = .ok (.iaload, 1) := by decide +kernel
theorem dX5_chooseRelay_42 : decode cX5_chooseRelay 42 = .ok (.if_icmp .ge 35, 3) := by decide +kernel
theorem dX5_chooseRelay_45 : decode cX5_chooseRelay 45 = .ok (.aload_n 0, 1) := by decide +kernel
theorem dX5_chooseRelay_46 : decode cX5_chooseRelay 46 = .ok (.aload_n 1, 1) := by decide +kernel
theorem dX5_chooseRelay_47 : decode cX5_chooseRelay 47 = .ok (.iload 6, 2) := by decide +kernel
theorem dX5_chooseRelay_49 : decode cX5_chooseRelay 49 = .ok (.iload_n 2, 1) := by decide +kernel
theorem dX5_chooseRelay_50 : decode cX5_chooseRelay 50 = .ok (.iload_n 3, 1) := by decide +kernel
theorem dX5_chooseRelay_51 : decode cX5_chooseRelay 51 = .ok (.invokevirtual 95, 3) := by decide +kernel
theorem dX5_chooseRelay_54 : decode cX5_chooseRelay 54 = .ok (.istore 7, 2) := by decide +kernel
theorem dX5_chooseRelay_56 : decode cX5_chooseRelay 56 = .ok (.iload 4, 2) := by decide +kernel
theorem dX5_chooseRelay_58 : decode cX5_chooseRelay 58 = .ok (.iconst (-1), 1) := by decide +kernel
theorem dX5_chooseRelay_59 : decode cX5_chooseRelay 59 = .ok (.if_icmp .eq 10, 3) := by decide +kernel
theorem dX5_chooseRelay_62 : decode cX5_chooseRelay 62 = .ok (.iload 7, 2) := by decide +kernel
theorem dX5_chooseRelay_64 : decode cX5_chooseRelay 64 = .ok (.iload 5, 2) := by decide +kernel
theorem dX5_chooseRelay_66 : decode cX5_chooseRelay 66 = .ok (.if_icmp .ge 11, 3) := by decide +kernel
theorem dX5_chooseRelay_69 : decode cX5_chooseRelay 69 = .ok (.iload 6, 2) := by decide +kernel
theorem dX5_chooseRelay_71 : decode cX5_chooseRelay 71 = .ok (.istore 4, 2) := by decide +kernel
theorem dX5_chooseRelay_73 : decode cX5_chooseRelay 73 = .ok (.iload 7, 2) := by decide +kernel
theorem dX5_chooseRelay_75 : decode cX5_chooseRelay 75 = .ok (.istore 5, 2) := by decide +kernel
theorem dX5_chooseRelay_77 : decode cX5_chooseRelay 77 = .ok (.iinc 6 1, 3) := by decide +kernel
theorem dX5_chooseRelay_80 : decode cX5_chooseRelay 80 = .ok (.goto (-71), 3) := by decide +kernel
theorem dX5_chooseRelay_83 : decode cX5_chooseRelay 83 = .ok (.iload 4, 2) := by decide +kernel
theorem dX5_chooseRelay_85 : decode cX5_chooseRelay 85 = .ok (.ireturn, 1) := by decide +kernel
theorem dX5_passTick_0 : decode cX5_passTick 0 = .ok (.aload_n 0, 1) := by decide +kernel
theorem dX5_passTick_1 : decode cX5_passTick 1 = .ok (.dup, 1) := by decide +kernel
theorem dX5_passTick_2 : decode cX5_passTick 2 = .ok (.getfield 25, 3) := by decide +kernel
theorem dX5_passTick_5 : decode cX5_passTick 5 = .ok (.iconst 1, 1) := by decide +kernel
theorem dX5_passTick_6 : decode cX5_passTick 6 = .ok (.iadd, 1) := by decide +kernel
theorem dX5_passTick_7 : decode cX5_passTick 7 = .ok (.putfield 25, 3) := by decide +kernel
theorem dX5_passTick_10 : decode cX5_passTick 10 = .ok (.iconst 0, 1) := by decide +kernel
theorem dX5_passTick_11 : decode cX5_passTick 11 = .ok (.istore_n 2, 1) := by decide +kernel
theorem dX5_passTick_12 : decode cX5_passTick 12 = .ok (.iconst 0, 1) := by decide +kernel
theorem dX5_passTick_13 : decode cX5_passTick 13 = .ok (.istore_n 3, 1) := by decide +kernel
theorem dX5_passTick_14 : decode cX5_passTick 14 = .ok (.iload_n 3, 1) := by decide +kernel
theorem dX5_passTick_15 : decode cX5_passTick 15 = .ok (.bipush 6, 2) := by decide +kernel
theorem dX5_passTick_17 : decode cX5_passTick 17 = .ok (.if_icmp .ge 37, 3) := by decide +kernel
theorem dX5_passTick_20 : decode cX5_passTick 20 = .ok (.aload_n 0, 1) := by decide +kernel
theorem dX5_passTick_21 : decode cX5_passTick 21 = .ok (.getfield 20, 3) := by decide +kernel
theorem dX5_passTick_24 : decode cX5_passTick 24 = .ok (.iload_n 3, 1) := by decide +kernel
theorem dX5_passTick_25 : decode cX5_passTick 25 = .ok (.aaload, 1) := by decide +kernel
theorem dX5_passTick_26 : decode cX5_passTick 26 = .ok (.getfield 46, 3) := by decide +kernel
theorem dX5_passTick_29 : decode cX5_passTick 29 = .ok (.ifCond .eq 19, 3) := by decide +kernel
theorem dX5_passTick_32 : decode cX5_passTick 32 = .ok (.iload_n 2, 1) := by decide +kernel
theorem dX5_passTick_33 : decode cX5_passTick 33 = .ok (.aload_n 0, 1) := by decide +kernel
theorem dX5_passTick_34 : decode cX5_passTick 34 = .ok (.getfield 20, 3) := by decide +kernel
theorem dX5_passTick_37 : decode cX5_passTick 37 = .ok (.iload_n 3, 1) := by decide +kernel
theorem dX5_passTick_38 : decode cX5_passTick 38 = .ok (.aaload, 1) := by decide +kernel
theorem dX5_passTick_39 : decode cX5_passTick 39 = .ok (.aload_n 0, 1) := by decide +kernel
theorem dX5_passTick_40 : decode cX5_passTick 40 = .ok (.getfield 25, 3) := by decide +kernel
theorem dX5_passTick_43 : decode cX5_passTick 43 = .ok (.invokevirtual 99, 3) := by decide +kernel
theorem dX5_passTick_46 : decode cX5_passTick 46 = .ok (.iadd, 1) := by decide +kernel
theorem dX5_passTick_47 : decode cX5_passTick 47 = .ok (.istore_n 2, 1) := by decide +kernel
theorem dX5_passTick_48 : decode cX5_passTick 48 = .ok (.iinc 3 1, 3) := by decide +kernel
theorem dX5_passTick_51 : decode cX5_passTick 51 = .ok (.goto (-37), 3) := by decide +kernel
theorem dX5_passTick_54 : decode cX5_passTick 54 = .ok (.iconst 0, 1) := by decide +kernel
theorem dX5_passTick_55 : decode cX5_passTick 55 = .ok (.istore_n 3, 1) := by decide +kernel
theorem dX5_passTick_56 : decode cX5_passTick 56 = .ok (.iload_n 3, 1) := by decide +kernel
theorem dX5_passTick_57 : decode cX5_passTick 57 = .ok (.bipush 6, 2) := by decide +kernel
theorem dX5_passTick_59 : decode cX5_passTick 59 = .ok (.if_icmp .ge 46, 3) := by decide +kernel
theorem dX5_passTick_62 : decode cX5_passTick 62 = .ok (.aload_n 0, 1) := by decide +kernel
theorem dX5_passTick_63 : decode cX5_passTick 63 = .ok (.getfield 20, 3) := by decide +kernel
theorem dX5_passTick_66 : decode cX5_passTick 66 = .ok (.iload_n 3, 1) := by decide +kernel
theorem dX5_passTick_67 : decode cX5_passTick 67 = .ok (.aaload, 1) := by decide +kernel
theorem dX5_passTick_68 : decode cX5_passTick 68 = .ok (.getfield 46, 3) := by decide +kernel
theorem dX5_passTick_71 : decode cX5_passTick 71 = .ok (.ifCond .eq 28, 3) := by decide +kernel
theorem dX5_passTick_74 : decode cX5_passTick 74 = .ok (.aload_n 0, 1) := by decide +kernel
theorem dX5_passTick_75 : decode cX5_passTick 75 = .ok (.getfield 20, 3) := by decide +kernel
theorem dX5_passTick_78 : decode cX5_passTick 78 = .ok (.iload_n 3, 1) := by decide +kernel
theorem dX5_passTick_79 : decode cX5_passTick 79 = .ok (.aaload, 1) := by decide +kernel
theorem dX5_passTick_80 : decode cX5_passTick 80 = .ok (.getfield 102, 3) := by decide +kernel
theorem dX5_passTick_83 : decode cX5_passTick 83 = .ok (.bipush 100, 2) := by decide +kernel
theorem dX5_passTick_85 : decode cX5_passTick 85 = .ok (.if_icmp .eq 14, 3) := by decide +kernel
theorem dX5_passTick_88 : decode cX5_passTick 88 = .ok (.aload_n 0, 1) := by decide +kernel
theorem dX5_passTick_89 : decode cX5_passTick 89 = .ok (.aload_n 1, 1) := by decide +kernel
theorem dX5_passTick_90 : decode cX5_passTick 90 = .ok (.aload_n 0, 1) := by decide +kernel
theorem dX5_passTick_91 : decode cX5_passTick 91 = .ok (.getfield 20, 3) := by decide +kernel
theorem dX5_passTick_94 : decode cX5_passTick 94 = .ok (.iload_n 3, 1) := by decide +kernel
theorem dX5_passTick_95 : decode cX5_passTick 95 = .ok (.aaload, 1) := by decide +kernel
theorem dX5_passTick_96 : decode cX5_passTick 96 = .ok (.invokevirtual 105, 3) := by decide +kernel
theorem dX5_passTick_99 : decode cX5_passTick 99 = .ok (.iinc 3 1, 3) := by decide +kernel
theorem dX5_passTick_102 : decode cX5_passTick 102 = .ok (.goto (-46), 3) := by decide +kernel
theorem dX5_passTick_105 : decode cX5_passTick 105 = .ok (.iconst 0, 1) := by decide +kernel
theorem dX5_passTick_106 : decode cX5_passTick 106 = .ok (.istore_n 3, 1) := by decide +kernel
theorem dX5_passTick_107 : decode cX5_passTick 107 = .ok (.iload_n 3, 1) := by decide +kernel
theorem dX5_passTick_108 : decode cX5_passTick 108 = .ok (.bipush 6, 2) := by decide +kernel
theorem dX5_passTick_110 : decode cX5_passTick 110 = .ok (.if_icmp .ge 45, 3) := by decide +kernel
theorem dX5_passTick_113 : decode cX5_passTick 113 = .ok (.aload_n 0, 1) := by decide +kernel
theorem dX5_passTick_114 : decode cX5_passTick 114 = .ok (.getfield 20, 3) := by decide +kernel
theorem dX5_passTick_117 : decode cX5_passTick 117 = .ok (.iload_n 3, 1) := by decide +kernel
theorem dX5_passTick_118 : decode cX5_passTick 118 = .ok (.aaload, 1) := by decide +kernel
theorem dX5_passTick_119 : decode cX5_passTick 119 = .ok (.getfield 46, 3) := by decide +kernel
theorem dX5_passTick_122 : decode cX5_passTick 122 = .ok (.ifCond .eq 27, 3) := by decide +kernel
theorem dX5_passTick_125 : decode cX5_passTick 125 = .ok (.aload_n 0, 1) := by decide +kernel
theorem dX5_passTick_126 : decode cX5_passTick 126 = .ok (.getfield 20, 3) := by decide +kernel
theorem dX5_passTick_129 : decode cX5_passTick 129 = .ok (.iload_n 3, 1) := by decide +kernel
theorem dX5_passTick_130 : decode cX5_passTick 130 = .ok (.aaload, 1) := by decide +kernel
theorem dX5_passTick_131 : decode cX5_passTick 131 = .ok (.getfield 102, 3) := by decide +kernel
theorem dX5_passTick_134 : decode cX5_passTick 134 = .ok (.iconst (-1), 1) := by decide +kernel
theorem dX5_passTick_135 : decode cX5_passTick 135 = .ok (.if_icmp .ne 14, 3) := by decide +kernel
theorem dX5_passTick_138 : decode cX5_passTick 138 = .ok (.aload_n 0, 1) := by decide +kernel
theorem dX5_passTick_139 : decode cX5_passTick 139 = .ok (.aload_n 1, 1) := by decide +kernel
theorem dX5_passTick_140 : decode cX5_passTick 140 = .ok (.aload_n 0, 1) := by decide +kernel
theorem dX5_passTick_141 : decode cX5_passTick 141 = .ok (.getfield 20, 3) := by decide +kernel
theorem dX5_passTick_144 : decode cX5_passTick 144 = .ok (.iload_n 3, 1) := by decide +kernel
theorem dX5_passTick_145 : decode cX5_passTick 145 = .ok (.aaload, 1) := by decide +kernel
theorem dX5_passTick_146 : decode cX5_passTick 146 = .ok (.invokevirtual 109, 3) := by decide +kernel
theorem dX5_passTick_149 : decode cX5_passTick 149 = .ok (.iinc 3 1, 3) := by decide +kernel
theorem dX5_passTick_152 : decode cX5_passTick 152 = .ok (.goto (-45), 3) := by decide +kernel
theorem dX5_passTick_155 : decode cX5_passTick 155 = .ok (.iconst 0, 1) := by decide +kernel
theorem dX5_passTick_156 : decode cX5_passTick 156 = .ok (.istore_n 3, 1) := by decide +kernel
theorem dX5_passTick_157 : decode cX5_passTick 157 = .ok (.iload_n 3, 1) := by decide +kernel
theorem dX5_passTick_158 : decode cX5_passTick 158 = .ok (.bipush 6, 2) := by decide +kernel
theorem dX5_passTick_160 : decode cX5_passTick 160 = .ok (.if_icmp .ge 30, 3) := by decide +kernel
theorem dX5_passTick_163 : decode cX5_passTick 163 = .ok (.aload_n 0, 1) := by decide +kernel
theorem dX5_passTick_164 : decode cX5_passTick 164 = .ok (.getfield 20, 3) := by decide +kernel
theorem dX5_passTick_167 : decode cX5_passTick 167 = .ok (.iload_n 3, 1) := by decide +kernel
theorem dX5_passTick_168 : decode cX5_passTick 168 = .ok (.aaload, 1) := by decide +kernel
theorem dX5_passTick_169 : decode cX5_passTick 169 = .ok (.getfield 46, 3) := by decide +kernel
theorem dX5_passTick_172 : decode cX5_passTick 172 = .ok (.ifCond .eq 12, 3) := by decide +kernel
theorem dX5_passTick_175 : decode cX5_passTick 175 = .ok (.aload_n 0, 1) := by decide +kernel
theorem dX5_passTick_176 : decode cX5_passTick 176 = .ok (.getfield 20, 3) := by decide +kernel
theorem dX5_passTick_179 : decode cX5_passTick 179 = .ok (.iload_n 3, 1) := by decide +kernel
theorem dX5_passTick_180 : decode cX5_passTick 180 = .ok (.aaload, 1) := by decide +kernel
theorem dX5_passTick_181 : decode cX5_passTick 181 = .ok (.invokevirtual 112, 3) := by decide +kernel
theorem dX5_passTick_184 : decode cX5_passTick 184 = .ok (.iinc 3 1, 3) := by decide +kernel
theorem dX5_passTick_187 : decode cX5_passTick 187 = .ok (.goto (-30), 3) := by decide +kernel
theorem dX5_passTick_190 : decode cX5_passTick 190 = .ok (.iload_n 2, 1) := by decide +kernel
theorem dX5_passTick_191 : decode cX5_passTick 191 = .ok (.ireturn, 1) := by decide +kernel
theorem dX5_probeIfDue_0 : decode cX5_probeIfDue 0 = .ok (.aload_n 1, 1) := by decide +kernel
theorem dX5_probeIfDue_1 : decode cX5_probeIfDue 1 = .ok (.getfield 115, 3) := by decide +kernel
theorem dX5_probeIfDue_4 : decode cX5_probeIfDue 4 = .ok (.iconst 1, 1) := by decide +kernel
theorem dX5_probeIfDue_5 : decode cX5_probeIfDue 5 = .ok (.if_icmp .lt 20, 3) := by decide +kernel
theorem dX5_probeIfDue_8 : decode cX5_probeIfDue 8 = .ok (.aload_n 0, 1) := by decide +kernel
theorem dX5_probeIfDue_9 : decode cX5_probeIfDue 9 = .ok (.getfield 25, 3) := by decide +kernel
theorem dX5_probeIfDue_12 : decode cX5_probeIfDue 12 = .ok (.aload_n 2, 1) := by decide +kernel
theorem dX5_probeIfDue_13 : decode cX5_probeIfDue 13 = .ok (.getfield 118, 3) := by decide +kernel
theorem dX5_probeIfDue_16 : decode cX5_probeIfDue 16 = .ok (.isub, 1) := by decide +kernel
theorem dX5_probeIfDue_17 : decode cX5_probeIfDue 17 = .ok (.aload_n 1, 1) := by decide +kernel
theorem dX5_probeIfDue_18 : decode cX5_probeIfDue 18 = .ok (.getfield 115, 3) := by decide +kernel
theorem dX5_probeIfDue_21 : decode cX5_probeIfDue 21 = .ok (.irem, 1) := by decide +kernel
theorem dX5_probeIfDue_22 : decode cX5_probeIfDue 22 = .ok (.ifCond .eq 4, 3) := by decide +kernel
theorem dX5_probeIfDue_25 : decode cX5_probeIfDue 25 = .ok (.return_, 1) := by decide +kernel
theorem dX5_probeIfDue_26 : decode cX5_probeIfDue 26 = .ok (.aload_n 0, 1) := by decide +kernel
theorem dX5_probeIfDue_27 : decode cX5_probeIfDue 27 = .ok (.aload_n 2, 1) := by decide +kernel
theorem dX5_probeIfDue_28 : decode cX5_probeIfDue 28 = .ok (.getfield 50, 3) := by decide +kernel
theorem dX5_probeIfDue_31 : decode cX5_probeIfDue 31 = .ok (.aload_n 2, 1) := by decide +kernel
theorem dX5_probeIfDue_32 : decode cX5_probeIfDue 32 = .ok (.getfield 53, 3) := by decide +kernel
theorem dX5_probeIfDue_35 : decode cX5_probeIfDue 35 = .ok (.invokevirtual 64, 3) := by decide +kernel
theorem dX5_probeIfDue_38 : decode cX5_probeIfDue 38 = .ok (.ifCond .ne 9, 3) := by decide +kernel
theorem dX5_probeIfDue_41 : decode cX5_probeIfDue 41 = .ok (.aload_n 2, 1) := by decide +kernel
theorem dX5_probeIfDue_42 : decode cX5_probeIfDue 42 = .ok (.iconst 0, 1) := by decide +kernel
theorem dX5_probeIfDue_43 : decode cX5_probeIfDue 43 = .ok (.putfield 121, 3) := by decide +kernel
theorem dX5_probeIfDue_46 : decode cX5_probeIfDue 46 = .ok (.return_, 1) := by decide +kernel
theorem dX5_probeIfDue_47 : decode cX5_probeIfDue 47 = .ok (.aload_n 2, 1) := by decide +kernel
theorem dX5_probeIfDue_48 : decode cX5_probeIfDue 48 = .ok (.dup, 1) := by decide +kernel
theorem dX5_probeIfDue_49 : decode cX5_probeIfDue 49 = .ok (.getfield 121, 3) := by decide +kernel
theorem dX5_probeIfDue_52 : decode cX5_probeIfDue 52 = .ok (.iconst 1, 1) := by decide +kernel
theorem dX5_probeIfDue_53 : decode cX5_probeIfDue 53 = .ok (.iadd, 1) := by decide +kernel
theorem dX5_probeIfDue_54 : decode cX5_probeIfDue 54 = .ok (.putfield 121, 3) := by decide +kernel
theorem dX5_probeIfDue_57 : decode cX5_probeIfDue 57 = .ok (.aload_n 2, 1) := by decide +kernel
theorem dX5_probeIfDue_58 : decode cX5_probeIfDue 58 = .ok (.getfield 121, 3) := by decide +kernel
theorem dX5_probeIfDue_61 : decode cX5_probeIfDue 61 = .ok (.aload_n 1, 1) := by decide +kernel
theorem dX5_probeIfDue_62 : decode cX5_probeIfDue 62 = .ok (.getfield 124, 3) := by decide +kernel
theorem dX5_probeIfDue_65 : decode cX5_probeIfDue 65 = .ok (.if_icmp .lt 9, 3) := by decide +kernel
theorem dX5_probeIfDue_68 : decode cX5_probeIfDue 68 = .ok (.aload_n 0, 1) := by decide +kernel
theorem dX5_probeIfDue_69 : decode cX5_probeIfDue 69 = .ok (.aload_n 1, 1) := by decide +kernel
theorem dX5_probeIfDue_70 : decode cX5_probeIfDue 70 = .ok (.aload_n 2, 1) := by decide +kernel
theorem dX5_probeIfDue_71 : decode cX5_probeIfDue 71 = .ok (.invokevirtual 127, 3) := by decide +kernel
theorem dX5_probeIfDue_74 : decode cX5_probeIfDue 74 = .ok (.return_, 1) := by decide +kernel
theorem dX5_upgrade_0 : decode cX5_upgrade 0 = .ok (.aload_n 2, 1) := by decide +kernel
theorem dX5_upgrade_1 : decode cX5_upgrade 1 = .ok (.iconst 0, 1) := by decide +kernel
theorem dX5_upgrade_2 : decode cX5_upgrade 2 = .ok (.putfield 121, 3) := by decide +kernel
theorem dX5_upgrade_5 : decode cX5_upgrade 5 = .ok (.aload_n 2, 1) := by decide +kernel
theorem dX5_upgrade_6 : decode cX5_upgrade 6 = .ok (.getfield 102, 3) := by decide +kernel
theorem dX5_upgrade_9 : decode cX5_upgrade 9 = .ok (.iconst (-1), 1) := by decide +kernel
theorem dX5_upgrade_10 : decode cX5_upgrade 10 = .ok (.if_icmp .eq 11, 3) := by decide +kernel
theorem dX5_upgrade_13 : decode cX5_upgrade 13 = .ok (.aload_n 2, 1) := by decide +kernel
theorem dX5_upgrade_14 : decode cX5_upgrade 14 = .ok (.aload_n 2, 1) := by decide +kernel
theorem dX5_upgrade_15 : decode cX5_upgrade 15 = .ok (.getfield 102, 3) := by decide +kernel
theorem dX5_upgrade_18 : decode cX5_upgrade 18 = .ok (.putfield 130, 3) := by decide +kernel
theorem dX5_upgrade_21 : decode cX5_upgrade 21 = .ok (.aload_n 2, 1) := by decide +kernel
theorem dX5_upgrade_22 : decode cX5_upgrade 22 = .ok (.bipush 100, 2) := by decide +kernel
theorem dX5_upgrade_24 : decode cX5_upgrade 24 = .ok (.invokevirtual 133, 3) := by decide +kernel
theorem dX5_upgrade_27 : decode cX5_upgrade 27 = .ok (.aload_n 2, 1) := by decide +kernel
theorem dX5_upgrade_28 : decode cX5_upgrade 28 = .ok (.aload_n 0, 1) := by decide +kernel
theorem dX5_upgrade_29 : decode cX5_upgrade 29 = .ok (.getfield 25, 3) := by decide +kernel
theorem dX5_upgrade_32 : decode cX5_upgrade 32 = .ok (.aload_n 1, 1) := by decide +kernel
theorem dX5_upgrade_33 : decode cX5_upgrade 33 = .ok (.aload_n 2, 1) := by decide +kernel
theorem dX5_upgrade_34 : decode cX5_upgrade 34 = .ok (.invokevirtual 137, 3) := by decide +kernel
theorem dX5_upgrade_37 : decode cX5_upgrade 37 = .ok (.iadd, 1) := by decide +kernel
theorem dX5_upgrade_38 : decode cX5_upgrade 38 = .ok (.invokevirtual 141, 3) := by decide +kernel
theorem dX5_upgrade_41 : decode cX5_upgrade 41 = .ok (.return_, 1) := by decide +kernel
theorem dX5_seekRelay_0 : decode cX5_seekRelay 0 = .ok (.aload_n 0, 1) := by decide +kernel
theorem dX5_seekRelay_1 : decode cX5_seekRelay 1 = .ok (.aload_n 1, 1) := by decide +kernel
theorem dX5_seekRelay_2 : decode cX5_seekRelay 2 = .ok (.aload_n 2, 1) := by decide +kernel
theorem dX5_seekRelay_3 : decode cX5_seekRelay 3 = .ok (.getfield 50, 3) := by decide +kernel
theorem dX5_seekRelay_6 : decode cX5_seekRelay 6 = .ok (.aload_n 2, 1) := by decide +kernel
theorem dX5_seekRelay_7 : decode cX5_seekRelay 7 = .ok (.getfield 53, 3) := by decide +kernel
theorem dX5_seekRelay_10 : decode cX5_seekRelay 10 = .ok (.invokevirtual 144, 3) := by decide +kernel
theorem dX5_seekRelay_13 : decode cX5_seekRelay 13 = .ok (.istore_n 3, 1) := by decide +kernel
theorem dX5_seekRelay_14 : decode cX5_seekRelay 14 = .ok (.iload_n 3, 1) := by decide +kernel
theorem dX5_seekRelay_15 : decode cX5_seekRelay 15 = .ok (.iconst (-1), 1) := by decide +kernel
theorem dX5_seekRelay_16 : decode cX5_seekRelay 16 = .ok (.if_icmp .eq 22, 3) := by decide +kernel
theorem dX5_seekRelay_19 : decode cX5_seekRelay 19 = .ok (.aload_n 2, 1) := by decide +kernel
theorem dX5_seekRelay_20 : decode cX5_seekRelay 20 = .ok (.iload_n 3, 1) := by decide +kernel
theorem dX5_seekRelay_21 : decode cX5_seekRelay 21 = .ok (.invokevirtual 133, 3) := by decide +kernel
theorem dX5_seekRelay_24 : decode cX5_seekRelay 24 = .ok (.aload_n 2, 1) := by decide +kernel
theorem dX5_seekRelay_25 : decode cX5_seekRelay 25 = .ok (.aload_n 0, 1) := by decide +kernel
theorem dX5_seekRelay_26 : decode cX5_seekRelay 26 = .ok (.getfield 25, 3) := by decide +kernel
theorem dX5_seekRelay_29 : decode cX5_seekRelay 29 = .ok (.aload_n 1, 1) := by decide +kernel
theorem dX5_seekRelay_30 : decode cX5_seekRelay 30 = .ok (.aload_n 2, 1) := by decide +kernel
theorem dX5_seekRelay_31 : decode cX5_seekRelay 31 = .ok (.invokevirtual 137, 3) := by decide +kernel
theorem dX5_seekRelay_34 : decode cX5_seekRelay 34 = .ok (.iadd, 1) := by decide +kernel
theorem dX5_seekRelay_35 : decode cX5_seekRelay 35 = .ok (.invokevirtual 141, 3) := by decide +kernel
theorem dX5_seekRelay_38 : decode cX5_seekRelay 38 = .ok (.return_, 1) := by decide +kernel
theorem dX5_leaveLink_0 : decode cX5_leaveLink 0 = .ok (.iconst 0, 1) := by decide +kernel
theorem dX5_leaveLink_1 : decode cX5_leaveLink 1 = .ok (.istore 4, 2) := by decide +kernel
theorem dX5_leaveLink_3 : decode cX5_leaveLink 3 = .ok (.iconst 0, 1) := by decide +kernel
theorem dX5_leaveLink_4 : decode cX5_leaveLink 4 = .ok (.istore 5, 2) := by decide +kernel
theorem dX5_leaveLink_6 : decode cX5_leaveLink 6 = .ok (.iload 5, 2) := by decide +kernel
theorem dX5_leaveLink_8 : decode cX5_leaveLink 8 = .ok (.bipush 6, 2) := by decide +kernel
theorem dX5_leaveLink_10 : decode cX5_leaveLink 10 = .ok (.if_icmp .ge 58, 3) := by decide +kernel
theorem dX5_leaveLink_13 : decode cX5_leaveLink 13 = .ok (.aload_n 0, 1) := by decide +kernel
theorem dX5_leaveLink_14 : decode cX5_leaveLink 14 = .ok (.getfield 20, 3) := by decide +kernel
theorem dX5_leaveLink_17 : decode cX5_leaveLink 17 = .ok (.iload 5, 2) := by decide +kernel
theorem dX5_leaveLink_19 : decode cX5_leaveLink 19 = .ok (.aaload, 1) := by decide +kernel
theorem dX5_leaveLink_20 : decode cX5_leaveLink 20 = .ok (.astore 6, 2) := by decide +kernel
theorem dX5_leaveLink_22 : decode cX5_leaveLink 22 = .ok (.aload 6, 2) := by decide +kernel
theorem dX5_leaveLink_24 : decode cX5_leaveLink 24 = .ok (.getfield 46, 3) := by decide +kernel
theorem dX5_leaveLink_27 : decode cX5_leaveLink 27 = .ok (.ifCond .eq 35, 3) := by decide +kernel
theorem dX5_leaveLink_30 : decode cX5_leaveLink 30 = .ok (.aload_n 0, 1) := by decide +kernel
theorem dX5_leaveLink_31 : decode cX5_leaveLink 31 = .ok (.aload_n 1, 1) := by decide +kernel
theorem dX5_leaveLink_32 : decode cX5_leaveLink 32 = .ok (.aload 6, 2) := by decide +kernel
theorem dX5_leaveLink_34 : decode cX5_leaveLink 34 = .ok (.iload_n 2, 1) := by decide +kernel
theorem dX5_leaveLink_35 : decode cX5_leaveLink 35 = .ok (.iload_n 3, 1) := by decide +kernel
theorem dX5_leaveLink_36 : decode cX5_leaveLink 36 = .ok (.invokevirtual 148, 3) := by decide +kernel
theorem dX5_leaveLink_39 : decode cX5_leaveLink 39 = .ok (.iload 4, 2) := by decide +kernel
theorem dX5_leaveLink_41 : decode cX5_leaveLink 41 = .ok (.aload 6, 2) := by decide +kernel
theorem dX5_leaveLink_43 : decode cX5_leaveLink 43 = .ok (.iload_n 2, 1) := by decide +kernel
theorem dX5_leaveLink_44 : decode cX5_leaveLink 44 = .ok (.iload_n 3, 1) := by decide +kernel
theorem dX5_leaveLink_45 : decode cX5_leaveLink 45 = .ok (.aload_n 0, 1) := by decide +kernel
theorem dX5_leaveLink_46 : decode cX5_leaveLink 46 = .ok (.getfield 25, 3) := by decide +kernel
theorem dX5_leaveLink_49 : decode cX5_leaveLink 49 = .ok (.aload_n 1, 1) := by decide +kernel
theorem dX5_leaveLink_50 : decode cX5_leaveLink 50 = .ok (.aload 6, 2) := by decide +kernel
theorem dX5_leaveLink_52 : decode cX5_leaveLink 52 = .ok (.invokevirtual 137, 3) := by decide +kernel
theorem dX5_leaveLink_55 : decode cX5_leaveLink 55 = .ok (.iadd, 1) := by decide +kernel
theorem dX5_leaveLink_56 : decode cX5_leaveLink 56 = .ok (.invokevirtual 152, 3) := by decide +kernel
theorem dX5_leaveLink_59 : decode cX5_leaveLink 59 = .ok (.iadd, 1) := by decide +kernel
theorem dX5_leaveLink_60 : decode cX5_leaveLink 60 = .ok (.istore 4, 2) := by decide +kernel
theorem dX5_leaveLink_62 : decode cX5_leaveLink 62 = .ok (.iinc 5 1, 3) := by decide +kernel
theorem dX5_leaveLink_65 : decode cX5_leaveLink 65 = .ok (.goto (-59), 3) := by decide +kernel
theorem dX5_leaveLink_68 : decode cX5_leaveLink 68 = .ok (.iload 4, 2) := by decide +kernel
theorem dX5_leaveLink_70 : decode cX5_leaveLink 70 = .ok (.ireturn, 1) := by decide +kernel
theorem dX5_leavePaths_0 : decode cX5_leavePaths 0 = .ok (.aload_n 2, 1) := by decide +kernel
theorem dX5_leavePaths_1 : decode cX5_leavePaths 1 = .ok (.aload_n 2, 1) := by decide +kernel
theorem dX5_leavePaths_2 : decode cX5_leavePaths 2 = .ok (.getfield 130, 3) := by decide +kernel
theorem dX5_leavePaths_5 : decode cX5_leavePaths 5 = .ok (.iload_n 3, 1) := by decide +kernel
theorem dX5_leavePaths_6 : decode cX5_leavePaths 6 = .ok (.iload 4, 2) := by decide +kernel
theorem dX5_leavePaths_8 : decode cX5_leavePaths 8 = .ok (.invokevirtual 155, 3) := by decide +kernel
theorem dX5_leavePaths_11 : decode cX5_leavePaths 11 = .ok (.ifCond .eq 8, 3) := by decide +kernel
theorem dX5_leavePaths_14 : decode cX5_leavePaths 14 = .ok (.aload_n 2, 1) := by decide +kernel
theorem dX5_leavePaths_15 : decode cX5_leavePaths 15 = .ok (.iconst (-1), 1) := by decide +kernel
theorem dX5_leavePaths_16 : decode cX5_leavePaths 16 = .ok (.putfield 130, 3) := by decide +kernel
theorem dX5_leavePaths_19 : decode cX5_leavePaths 19 = .ok (.aload_n 2, 1) := by decide +kernel
theorem dX5_leavePaths_20 : decode cX5_leavePaths 20 = .ok (.aload_n 2, 1) := by decide +kernel
theorem dX5_leavePaths_21 : decode cX5_leavePaths 21 = .ok (.getfield 102, 3) := by decide +kernel
theorem dX5_leavePaths_24 : decode cX5_leavePaths 24 = .ok (.iload_n 3, 1) := by decide +kernel
theorem dX5_leavePaths_25 : decode cX5_leavePaths 25 = .ok (.iload 4, 2) := by decide +kernel
theorem dX5_leavePaths_27 : decode cX5_leavePaths 27 = .ok (.invokevirtual 155, 3) := by decide +kernel
theorem dX5_leavePaths_30 : decode cX5_leavePaths 30 = .ok (.ifCond .eq 25, 3) := by decide +kernel
theorem dX5_leavePaths_33 : decode cX5_leavePaths 33 = .ok (.aload_n 2, 1) := by decide +kernel
theorem dX5_leavePaths_34 : decode cX5_leavePaths 34 = .ok (.iconst 0, 1) := by decide +kernel
theorem dX5_leavePaths_35 : decode cX5_leavePaths 35 = .ok (.putfield 121, 3) := by decide +kernel
theorem dX5_leavePaths_38 : decode cX5_leavePaths 38 = .ok (.aload_n 2, 1) := by decide +kernel
theorem dX5_leavePaths_39 : decode cX5_leavePaths 39 = .ok (.aload_n 0, 1) := by decide +kernel
theorem dX5_leavePaths_40 : decode cX5_leavePaths 40 = .ok (.aload_n 1, 1) := by decide +kernel
theorem dX5_leavePaths_41 : decode cX5_leavePaths 41 = .ok (.aload_n 2, 1) := by decide +kernel
theorem dX5_leavePaths_42 : decode cX5_leavePaths 42 = .ok (.getfield 50, 3) := by decide +kernel
theorem dX5_leavePaths_45 : decode cX5_leavePaths 45 = .ok (.aload_n 2, 1) := by decide +kernel
theorem dX5_leavePaths_46 : decode cX5_leavePaths 46 = .ok (.getfield 53, 3) := by decide +kernel
theorem dX5_leavePaths_49 : decode cX5_leavePaths 49 = .ok (.invokevirtual 144, 3) := by decide +kernel
theorem dX5_leavePaths_52 : decode cX5_leavePaths 52 = .ok (.invokevirtual 133, 3) := by decide +kernel
theorem dX5_leavePaths_55 : decode cX5_leavePaths 55 = .ok (.return_, 1) := by decide +kernel
theorem dX6_init_0 : decode cX6_init 0 = .ok (.aload_n 0, 1) := by decide +kernel
theorem dX6_init_1 : decode cX6_init 1 = .ok (.invokespecial 1, 3) := by decide +kernel
theorem dX6_init_4 : decode cX6_init 4 = .ok (.aload_n 0, 1) := by decide +kernel
theorem dX6_init_5 : decode cX6_init 5 = .ok (.sipush 600, 3) := by decide +kernel
theorem dX6_init_8 : decode cX6_init 8 = .ok (.newarray .byte, 2) := by decide +kernel
theorem dX6_init_10 : decode cX6_init 10 = .ok (.putfield 9, 3) := by decide +kernel
theorem dX6_init_13 : decode cX6_init 13 = .ok (.aload_n 0, 1) := by decide +kernel
theorem dX6_init_14 : decode cX6_init 14 = .ok (.iconst 0, 1) := by decide +kernel
theorem dX6_init_15 : decode cX6_init 15 = .ok (.putfield 13, 3) := by decide +kernel
theorem dX6_init_18 : decode cX6_init 18 = .ok (.aload_n 0, 1) := by decide +kernel
theorem dX6_init_19 : decode cX6_init 19 = .ok (.iconst (-1), 1) := by decide +kernel
theorem dX6_init_20 : decode cX6_init 20 = .ok (.putfield 17, 3) := by decide +kernel
theorem dX6_init_23 : decode cX6_init 23 = .ok (.aload_n 0, 1) := by decide +kernel
theorem dX6_init_24 : decode cX6_init 24 = .ok (.new 20, 3) := by decide +kernel
theorem dX6_init_27 : decode cX6_init 27 = .ok (.dup, 1) := by decide +kernel
theorem dX6_init_28 : decode cX6_init 28 = .ok (.invokespecial 22, 3) := by decide +kernel
theorem dX6_init_31 : decode cX6_init 31 = .ok (.putfield 23, 3) := by decide +kernel
theorem dX6_init_34 : decode cX6_init 34 = .ok (.aload_n 0, 1) := by decide +kernel
theorem dX6_init_35 : decode cX6_init 35 = .ok (.new 20, 3) := by decide +kernel
theorem dX6_init_38 : decode cX6_init 38 = .ok (.dup, 1) := by decide +kernel
theorem dX6_init_39 : decode cX6_init 39 = .ok (.invokespecial 22, 3) := by decide +kernel
theorem dX6_init_42 : decode cX6_init 42 = .ok (.putfield 27, 3) := by decide +kernel
theorem dX6_init_45 : decode cX6_init 45 = .ok (.aload_n 0, 1) := by decide +kernel
theorem dX6_init_46 : decode cX6_init 46 = .ok (.new 30, 3) := by decide +kernel
theorem dX6_init_49 : decode cX6_init 49 = .ok (.dup, 1) := by decide +kernel
theorem dX6_init_50 : decode cX6_init 50 = .ok (.invokespecial 32, 3) := by decide +kernel
theorem dX6_init_53 : decode cX6_init 53 = .ok (.putfield 33, 3) := by decide +kernel
theorem dX6_init_56 : decode cX6_init 56 = .ok (.aload_n 0, 1) := by decide +kernel
theorem dX6_init_57 : decode cX6_init 57 = .ok (.new 30, 3) := by decide +kernel
theorem dX6_init_60 : decode cX6_init 60 = .ok (.dup, 1) := by decide +kernel
theorem dX6_init_61 : decode cX6_init 61 = .ok (.invokespecial 32, 3) := by decide +kernel
theorem dX6_init_64 : decode cX6_init 64 = .ok (.putfield 37, 3) := by decide +kernel
theorem dX6_init_67 : decode cX6_init 67 = .ok (.aload_n 0, 1) := by decide +kernel
theorem dX6_init_68 : decode cX6_init 68 = .ok (.new 40, 3) := by decide +kernel
theorem dX6_init_71 : decode cX6_init 71 = .ok (.dup, 1) := by decide +kernel
theorem dX6_init_72 : decode cX6_init 72 = .ok (.invokespecial 42, 3) := by decide +kernel
theorem dX6_init_75 : decode cX6_init 75 = .ok (.putfield 43, 3) := by decide +kernel
theorem dX6_init_78 : decode cX6_init 78 = .ok (.aload_n 0, 1) := by decide +kernel
theorem dX6_init_79 : decode cX6_init 79 = .ok (.iconst 2, 1) := by decide +kernel
theorem dX6_init_80 : decode cX6_init 80 = .ok (.anewarray 30, 3) := by decide +kernel
theorem dX6_init_83 : decode cX6_init 83 = .ok (.putfield 47, 3) := by decide +kernel
theorem dX6_init_86 : decode cX6_init 86 = .ok (.iconst 0, 1) := by decide +kernel
theorem dX6_init_87 : decode cX6_init 87 = .ok (.istore_n 1, 1) := by decide +kernel
theorem dX6_init_88 : decode cX6_init 88 = .ok (.iload_n 1, 1) := by decide +kernel
theorem dX6_init_89 : decode cX6_init 89 = .ok (.iconst 2, 1) := by decide +kernel
theorem dX6_init_90 : decode cX6_init 90 = .ok (.if_icmp .ge 22, 3) := by decide +kernel
theorem dX6_init_93 : decode cX6_init 93 = .ok (.aload_n 0, 1) := by decide +kernel
theorem dX6_init_94 : decode cX6_init 94 = .ok (.getfield 47, 3) := by decide +kernel
theorem dX6_init_97 : decode cX6_init 97 = .ok (.iload_n 1, 1) := by decide +kernel
theorem dX6_init_98 : decode cX6_init 98 = .ok (.new 30, 3) := by decide +kernel
theorem dX6_init_101 : decode cX6_init 101 = .ok (.dup, 1) := by decide +kernel
theorem dX6_init_102 : decode cX6_init 102 = .ok (.invokespecial 32, 3) := by decide +kernel
theorem dX6_init_105 : decode cX6_init 105 = .ok (.aastore, 1) := by decide +kernel
theorem dX6_init_106 : decode cX6_init 106 = .ok (.iinc 1 1, 3) := by decide +kernel
theorem dX6_init_109 : decode cX6_init 109 = .ok (.goto (-21), 3) := by decide +kernel
theorem dX6_init_112 : decode cX6_init 112 = .ok (.aload_n 0, 1) := by decide +kernel
theorem dX6_init_113 : decode cX6_init 113 = .ok (.iconst 2, 1) := by decide +kernel
theorem dX6_init_114 : decode cX6_init 114 = .ok (.newarray .boolean, 2) := by decide +kernel
theorem dX6_init_116 : decode cX6_init 116 = .ok (.putfield 51, 3) := by decide +kernel
theorem dX6_init_119 : decode cX6_init 119 = .ok (.return_, 1) := by decide +kernel
theorem dX6_append_0 : decode cX6_append 0 = .ok (.aload_n 0, 1) := by decide +kernel
theorem dX6_append_1 : decode cX6_append 1 = .ok (.getfield 13, 3) := by decide +kernel
theorem dX6_append_4 : decode cX6_append 4 = .ok (.sipush 580, 3) := by decide +kernel
theorem dX6_append_7 : decode cX6_append 7 = .ok (.if_icmp .le 5, 3) := by decide +kernel
theorem dX6_append_10 : decode cX6_append 10 = .ok (.iconst (-1), 1) := by decide +kernel
theorem dX6_append_11 : decode cX6_append 11 = .ok (.ireturn, 1) := by decide +kernel
theorem dX6_append_12 : decode cX6_append 12 = .ok (.aload_n 0, 1) := by decide +kernel
theorem dX6_append_13 : decode cX6_append 13 = .ok (.iload_n 1, 1) := by decide +kernel
theorem dX6_append_14 : decode cX6_append 14 = .ok (.invokevirtual 55, 3) := by decide +kernel
theorem dX6_append_17 : decode cX6_append 17 = .ok (.aload_n 0, 1) := by decide +kernel
theorem dX6_append_18 : decode cX6_append 18 = .ok (.iload_n 2, 1) := by decide +kernel
theorem dX6_append_19 : decode cX6_append 19 = .ok (.invokevirtual 55, 3) := by decide +kernel
theorem dX6_append_22 : decode cX6_append 22 = .ok (.aload_n 0, 1) := by decide +kernel
theorem dX6_append_23 : decode cX6_append 23 = .ok (.iload_n 3, 1) := by decide +kernel
theorem dX6_append_24 : decode cX6_append 24 = .ok (.invokevirtual 55, 3) := by decide +kernel
theorem dX6_append_27 : decode cX6_append 27 = .ok (.aload_n 0, 1) := by decide +kernel
theorem dX6_append_28 : decode cX6_append 28 = .ok (.iload 4, 2) := by decide +kernel
theorem dX6_append_30 : decode cX6_append 30 = .ok (.invokevirtual 55, 3) := by decide +kernel
theorem dX6_append_33 : decode cX6_append 33 = .ok (.aload_n 0, 1) := by decide +kernel
theorem dX6_append_34 : decode cX6_append 34 = .ok (.iload 5, 2) := by decide +kernel
theorem dX6_append_36 : decode cX6_append 36 = .ok (.invokevirtual 55, 3) := by decide +kernel
theorem dX6_append_39 : decode cX6_append 39 = .ok (.aload_n 0, 1) := by decide +kernel
theorem dX6_append_40 : decode cX6_append 40 = .ok (.getfield 13, 3) := by decide +kernel
theorem dX6_append_43 : decode cX6_append 43 = .ok (.ireturn, 1) := by decide +kernel
theorem dX6_parse_0 : decode cX6_parse 0 = .ok (.iload_n 1, 1) := by decide +kernel
theorem dX6_parse_1 : decode cX6_parse 1 = .ok (.ifCond .lt 11, 3) := by decide +kernel
theorem dX6_parse_4 : decode cX6_parse 4 = .ok (.iload_n 1, 1) := by decide +kernel
theorem dX6_parse_5 : decode cX6_parse 5 = .ok (.aload_n 0, 1) := by decide +kernel
theorem dX6_parse_6 : decode cX6_parse 6 = .ok (.getfield 13, 3) := by decide +kernel
theorem dX6_parse_9 : decode cX6_parse 9 = .ok (.if_icmp .le 13, 3) := by decide +kernel
theorem dX6_parse_12 : decode cX6_parse 12 = .ok (.new 59, 3) := by decide +kernel
theorem dX6_parse_15 : decode cX6_parse 15 = .ok (.dup, 1) := by decide +kernel
theorem dX6_parse_16 : decode cX6_parse 16 = .ok (.ldc 61, 2) := by decide +kernel
theorem dX6_parse_18 : decode cX6_parse 18 = .ok (.invokespecial 63, 3) := by decide +kernel
theorem dX6_parse_21 : decode cX6_parse 21 = .ok (.athrow, 1) := by decide +kernel
theorem dX6_parse_22 : decode cX6_parse 22 = .ok (.new 66, 3) := by decide +kernel
theorem dX6_parse_25 : decode cX6_parse 25 = .ok (.dup, 1) := by decide +kernel
theorem dX6_parse_26 : decode cX6_parse 26 = .ok (.aload_n 0, 1) := by decide +kernel
theorem dX6_parse_27 : decode cX6_parse 27 = .ok (.getfield 9, 3) := by decide +kernel
theorem dX6_parse_30 : decode cX6_parse 30 = .ok (.iload_n 1, 1) := by decide +kernel
theorem dX6_parse_31 : decode cX6_parse 31 = .ok (.aload_n 0, 1) := by decide +kernel
theorem dX6_parse_32 : decode cX6_parse 32 = .ok (.getfield 27, 3) := by decide +kernel
theorem dX6_parse_35 : decode cX6_parse 35 = .ok (.invokespecial 68, 3) := by decide +kernel
theorem dX6_parse_38 : decode cX6_parse 38 = .ok (.astore_n 2, 1) := by decide +kernel
theorem dX6_parse_39 : decode cX6_parse 39 = .ok (.aload_n 2, 1) := by decide +kernel
theorem dX6_parse_40 : decode cX6_parse 40 = .ok (.invokevirtual 71, 3) := by decide +kernel
theorem dX6_parse_43 : decode cX6_parse 43 = .ok (.istore_n 3, 1) := by decide +kernel
theorem dX6_parse_44 : decode cX6_parse 44 = .ok (.aload_n 0, 1) := by decide +kernel
theorem dX6_parse_45 : decode cX6_parse 45 = .ok (.iconst 0, 1) := by decide +kernel
theorem dX6_parse_46 : decode cX6_parse 46 = .ok (.putfield 13, 3) := by decide +kernel
theorem dX6_parse_49 : decode cX6_parse 49 = .ok (.iload_n 3, 1) := by decide +kernel
theorem dX6_parse_50 : decode cX6_parse 50 = .ok (.ifCond .eq 13, 3) := by decide +kernel
theorem dX6_parse_53 : decode cX6_parse 53 = .ok (.aload_n 0, 1) := by decide +kernel
theorem dX6_parse_54 : decode cX6_parse 54 = .ok (.aload_n 2, 1) := by decide +kernel
theorem dX6_parse_55 : decode cX6_parse 55 = .ok (.getfield 75, 3) := by decide +kernel
theorem dX6_parse_58 : decode cX6_parse 58 = .ok (.putfield 17, 3) := by decide +kernel
theorem dX6_parse_61 : decode cX6_parse 61 = .ok (.iload_n 3, 1) := by decide +kernel
theorem dX6_parse_62 : decode cX6_parse 62 = .ok (.ireturn, 1) := by decide +kernel
theorem dX6_parse_63 : decode cX6_parse 63 = .ok (.aload_n 0, 1) := by decide +kernel
theorem dX6_parse_64 : decode cX6_parse 64 = .ok (.iconst (-1), 1) := by decide +kernel
theorem dX6_parse_65 : decode cX6_parse 65 = .ok (.putfield 17, 3) := by decide +kernel
theorem dX6_parse_68 : decode cX6_parse 68 = .ok (.aload_n 0, 1) := by decide +kernel
theorem dX6_parse_69 : decode cX6_parse 69 = .ok (.invokevirtual 76, 3) := by decide +kernel
theorem dX6_parse_72 : decode cX6_parse 72 = .ok (.iconst 0, 1) := by decide +kernel
theorem dX6_parse_73 : decode cX6_parse 73 = .ok (.ireturn, 1) := by decide +kernel
theorem dX6_errorPosition_0 : decode cX6_errorPosition 0 = .ok (.aload_n 0, 1) := by decide +kernel
theorem dX6_errorPosition_1 : decode cX6_errorPosition 1 = .ok (.getfield 17, 3) := by decide +kernel
theorem dX6_errorPosition_4 : decode cX6_errorPosition 4 = .ok (.ireturn, 1) := by decide +kernel
theorem dX6_peerCount_0 : decode cX6_peerCount 0 = .ok (.aload_n 0, 1) := by decide +kernel
theorem dX6_peerCount_1 : decode cX6_peerCount 1 = .ok (.getfield 23, 3) := by decide +kernel
theorem dX6_peerCount_4 : decode cX6_peerCount 4 = .ok (.getfield 79, 3) := by decide +kernel
theorem dX6_peerCount_7 : decode cX6_peerCount 7 = .ok (.ireturn, 1) := by decide +kernel
theorem dX6_tick_0 : decode cX6_tick 0 = .ok (.aload_n 0, 1) := by decide +kernel
theorem dX6_tick_1 : decode cX6_tick 1 = .ok (.getfield 33, 3) := by decide +kernel
theorem dX6_tick_4 : decode cX6_tick 4 = .ok (.getfield 82, 3) := by decide +kernel
theorem dX6_tick_7 : decode cX6_tick 7 = .ok (.ireturn, 1) := by decide +kernel
theorem dX6_knows_0 : decode cX6_knows 0 = .ok (.aload_n 0, 1) := by decide +kernel
theorem dX6_knows_1 : decode cX6_knows 1 = .ok (.iload_n 1, 1) := by decide +kernel
theorem dX6_knows_2 : decode cX6_knows 2 = .ok (.iload_n 2, 1) := by decide +kernel
theorem dX6_knows_3 : decode cX6_knows 3 = .ok (.invokevirtual 85, 3) := by decide +kernel
theorem dX6_knows_6 : decode cX6_knows 6 = .ok (.aload_n 0, 1) := by decide +kernel
theorem dX6_knows_7 : decode cX6_knows 7 = .ok (.getfield 33, 3) := by decide +kernel
theorem dX6_knows_10 : decode cX6_knows 10 = .ok (.iload_n 1, 1) := by decide +kernel
theorem dX6_knows_11 : decode cX6_knows 11 = .ok (.iload_n 2, 1) := by decide +kernel
theorem dX6_knows_12 : decode cX6_knows 12 = .ok (.invokevirtual 89, 3) := by decide +kernel
theorem dX6_knows_15 : decode cX6_knows 15 = .ok (.ireturn, 1) := by decide +kernel
theorem dX6_delay_0 : decode cX6_delay 0 = .ok (.aload_n 0, 1) := by decide +kernel
theorem dX6_delay_1 : decode cX6_delay 1 = .ok (.iload_n 1, 1) := by decide +kernel
theorem dX6_delay_2 : decode cX6_delay 2 = .ok (.iload_n 2, 1) := by decide +kernel
theorem dX6_delay_3 : decode cX6_delay 3 = .ok (.invokevirtual 85, 3) := by decide +kernel
theorem dX6_delay_6 : decode cX6_delay 6 = .ok (.aload_n 0, 1) := by decide +kernel
theorem dX6_delay_7 : decode cX6_delay 7 = .ok (.getfield 33, 3) := by decide +kernel
theorem dX6_delay_10 : decode cX6_delay 10 = .ok (.iload_n 1, 1) := by decide +kernel
theorem dX6_delay_11 : decode cX6_delay 11 = .ok (.iload_n 2, 1) := by decide +kernel
theorem dX6_delay_12 : decode cX6_delay 12 = .ok (.invokevirtual 93, 3) := by decide +kernel
theorem dX6_delay_15 : decode cX6_delay 15 = .ok (.ifCond .eq 15, 3) := by decide +kernel
theorem dX6_delay_18 : decode cX6_delay 18 = .ok (.aload_n 0, 1) := by decide +kernel
theorem dX6_delay_19 : decode cX6_delay 19 = .ok (.getfield 23, 3) := by decide +kernel
theorem dX6_delay_22 : decode cX6_delay 22 = .ok (.iload_n 1, 1) := by decide +kernel
theorem dX6_delay_23 : decode cX6_delay 23 = .ok (.iload_n 2, 1) := by decide +kernel
theorem dX6_delay_24 : decode cX6_delay 24 = .ok (.invokevirtual 96, 3) := by decide +kernel
theorem dX6_delay_27 : decode cX6_delay 27 = .ok (.goto 4, 3) := by decide +kernel
theorem dX6_delay_30 : decode cX6_delay 30 = .ok (.iconst (-1), 1) := by decide +kernel
theorem dX6_delay_31 : decode cX6_delay 31 = .ok (.ireturn, 1) := by decide +kernel
theorem dX6_introductionsNeeded_0 : decode cX6_introductionsNeeded 0 = .ok (.aload_n 0, 1) := by decide +kernel
theorem dX6_introductionsNeeded_1 : decode cX6_introductionsNeeded 1 = .ok (.iload_n 1, 1) := by decide +kernel
theorem dX6_introductionsNeeded_2 : decode cX6_introductionsNeeded 2 = .ok (.iload_n 2, 1) := by decide +kernel
theorem dX6_introductionsNeeded_3 : decode cX6_introductionsNeeded 3 = .ok (.invokevirtual 100, 3) := by decide +kernel
theorem dX6_introductionsNeeded_6 : decode cX6_introductionsNeeded 6 = .ok (.aload_n 0, 1) := by decide +kernel
theorem dX6_introductionsNeeded_7 : decode cX6_introductionsNeeded 7 = .ok (.getfield 33, 3) := by decide +kernel
theorem dX6_introductionsNeeded_10 : decode cX6_introductionsNeeded 10 = .ok (.iload_n 1, 1) := by decide +kernel
theorem dX6_introductionsNeeded_11 : decode cX6_introductionsNeeded 11 = .ok (.iload_n 2, 1) := by decide +kernel
theorem dX6_introductionsNeeded_12 : decode cX6_introductionsNeeded 12 = .ok (.invokevirtual 103, 3) := by decide +kernel
theorem dX6_introductionsNeeded_15 : decode cX6_introductionsNeeded 15 = .ok (.istore_n 3, 1) := by decide +kernel
theorem dX6_introductionsNeeded_16 : decode cX6_introductionsNeeded 16 = .ok (.iload_n 3, 1) := by decide +kernel
theorem dX6_introductionsNeeded_17 : decode cX6_introductionsNeeded 17 = .ok (.iconst (-1), 1) := by decide +kernel
theorem dX6_introductionsNeeded_18 : decode cX6_introductionsNeeded 18 = .ok (.if_icmp .ne 7, 3) := by decide +kernel
theorem dX6_introductionsNeeded_21 : decode cX6_introductionsNeeded 21 = .ok (.iconst (-1), 1) := by decide +kernel
theorem dX6_introductionsNeeded_22 : decode cX6_introductionsNeeded 22 = .ok (.goto 6, 3) := by decide +kernel
theorem dX6_introductionsNeeded_25 : decode cX6_introductionsNeeded 25 = .ok (.iload_n 3, 1) := by decide +kernel
theorem dX6_introductionsNeeded_26 : decode cX6_introductionsNeeded 26 = .ok (.iconst 1, 1) := by decide +kernel
theorem dX6_introductionsNeeded_27 : decode cX6_introductionsNeeded 27 = .ok (.isub, 1) := by decide +kernel
theorem dX6_introductionsNeeded_28 : decode cX6_introductionsNeeded 28 = .ok (.ireturn, 1) := by decide +kernel
theorem dX6_introducer_0 : decode cX6_introducer 0 = .ok (.aload_n 0, 1) := by decide +kernel
theorem dX6_introducer_1 : decode cX6_introducer 1 = .ok (.iload_n 1, 1) := by decide +kernel
theorem dX6_introducer_2 : decode cX6_introducer 2 = .ok (.iload_n 2, 1) := by decide +kernel
theorem dX6_introducer_3 : decode cX6_introducer 3 = .ok (.invokevirtual 100, 3) := by decide +kernel
theorem dX6_introducer_6 : decode cX6_introducer 6 = .ok (.iconst 0, 1) := by decide +kernel
theorem dX6_introducer_7 : decode cX6_introducer 7 = .ok (.istore_n 3, 1) := by decide +kernel
theorem dX6_introducer_8 : decode cX6_introducer 8 = .ok (.iload_n 3, 1) := by decide +kernel
theorem dX6_introducer_9 : decode cX6_introducer 9 = .ok (.aload_n 0, 1) := by decide +kernel
theorem dX6_introducer_10 : decode cX6_introducer 10 = .ok (.getfield 23, 3) := by decide +kernel
theorem dX6_introducer_13 : decode cX6_introducer 13 = .ok (.getfield 79, 3) := by decide +kernel
theorem dX6_introducer_16 : decode cX6_introducer 16 = .ok (.if_icmp .ge 35, 3) := by decide +kernel
theorem dX6_introducer_19 : decode cX6_introducer 19 = .ok (.aload_n 0, 1) := by decide +kernel
theorem dX6_introducer_20 : decode cX6_introducer 20 = .ok (.getfield 33, 3) := by decide +kernel
theorem dX6_introducer_23 : decode cX6_introducer 23 = .ok (.iload_n 3, 1) := by decide +kernel
theorem dX6_introducer_24 : decode cX6_introducer 24 = .ok (.iload_n 1, 1) := by decide +kernel
theorem dX6_introducer_25 : decode cX6_introducer 25 = .ok (.invokevirtual 89, 3) := by decide +kernel
theorem dX6_introducer_28 : decode cX6_introducer 28 = .ok (.ifCond .eq 17, 3) := by decide +kernel
theorem dX6_introducer_31 : decode cX6_introducer 31 = .ok (.aload_n 0, 1) := by decide +kernel
theorem dX6_introducer_32 : decode cX6_introducer 32 = .ok (.getfield 33, 3) := by decide +kernel
theorem dX6_introducer_35 : decode cX6_introducer 35 = .ok (.iload_n 3, 1) := by decide +kernel
theorem dX6_introducer_36 : decode cX6_introducer 36 = .ok (.iload_n 2, 1) := by decide +kernel
theorem dX6_introducer_37 : decode cX6_introducer 37 = .ok (.invokevirtual 89, 3) := by decide +kernel
theorem dX6_introducer_40 : decode cX6_introducer 40 = .ok (.ifCond .eq 5, 3) := by decide +kernel
theorem dX6_introducer_43 : decode cX6_introducer 43 = .ok (.iload_n 3, 1) := by decide +kernel
theorem dX6_introducer_44 : decode cX6_introducer 44 = .ok (.ireturn, 1) := by decide +kernel
theorem dX6_introducer_45 : decode cX6_introducer 45 = .ok (.iinc 3 1, 3) := by decide +kernel
theorem dX6_introducer_48 : decode cX6_introducer 48 = .ok (.goto (-40), 3) := by decide +kernel
theorem dX6_introducer_51 : decode cX6_introducer 51 = .ok (.iconst (-1), 1) := by decide +kernel
theorem dX6_introducer_52 : decode cX6_introducer 52 = .ok (.ireturn, 1) := by decide +kernel
theorem dX6_load_0 : decode cX6_load 0 = .ok (.aload_n 0, 1) := by decide +kernel
theorem dX6_load_1 : decode cX6_load 1 = .ok (.iload_n 1, 1) := by decide +kernel
theorem dX6_load_2 : decode cX6_load 2 = .ok (.invokevirtual 106, 3) := by decide +kernel
theorem dX6_load_5 : decode cX6_load 5 = .ok (.aload_n 0, 1) := by decide +kernel
theorem dX6_load_6 : decode cX6_load 6 = .ok (.getfield 33, 3) := by decide +kernel
theorem dX6_load_9 : decode cX6_load 9 = .ok (.iload_n 1, 1) := by decide +kernel
theorem dX6_load_10 : decode cX6_load 10 = .ok (.invokevirtual 109, 3) := by decide +kernel
theorem dX6_load_13 : decode cX6_load 13 = .ok (.ireturn, 1) := by decide +kernel
theorem dX6_bestRelay_0 : decode cX6_bestRelay 0 = .ok (.aload_n 0, 1) := by decide +kernel
theorem dX6_bestRelay_1 : decode cX6_bestRelay 1 = .ok (.iload_n 1, 1) := by decide +kernel
theorem dX6_bestRelay_2 : decode cX6_bestRelay 2 = .ok (.iload_n 2, 1) := by decide +kernel
theorem dX6_bestRelay_3 : decode cX6_bestRelay 3 = .ok (.invokevirtual 100, 3) := by decide +kernel
theorem dX6_bestRelay_6 : decode cX6_bestRelay 6 = .ok (.aload_n 0, 1) := by decide +kernel
theorem dX6_bestRelay_7 : decode cX6_bestRelay 7 = .ok (.getfield 33, 3) := by decide +kernel
theorem dX6_bestRelay_10 : decode cX6_bestRelay 10 = .ok (.aload_n 0, 1) := by decide +kernel
theorem dX6_bestRelay_11 : decode cX6_bestRelay 11 = .ok (.getfield 23, 3) := by decide +kernel
theorem dX6_bestRelay_14 : decode cX6_bestRelay 14 = .ok (.iload_n 1, 1) := by decide +kernel
theorem dX6_bestRelay_15 : decode cX6_bestRelay 15 = .ok (.iload_n 2, 1) := by decide +kernel
theorem dX6_bestRelay_16 : decode cX6_bestRelay 16 = .ok (.invokevirtual 113, 3) := by decide +kernel
theorem dX6_bestRelay_19 : decode cX6_bestRelay 19 = .ok (.ireturn, 1) := by decide +kernel
theorem dX6_relayScore_0 : decode cX6_relayScore 0 = .ok (.aload_n 0, 1) := by decide +kernel
theorem dX6_relayScore_1 : decode cX6_relayScore 1 = .ok (.iload_n 1, 1) := by decide +kernel
theorem dX6_relayScore_2 : decode cX6_relayScore 2 = .ok (.iload_n 2, 1) := by decide +kernel
theorem dX6_relayScore_3 : decode cX6_relayScore 3 = .ok (.iload_n 3, 1) := by decide +kernel
theorem dX6_relayScore_4 : decode cX6_relayScore 4 = .ok (.invokevirtual 117, 3) := by decide +kernel
theorem dX6_relayScore_7 : decode cX6_relayScore 7 = .ok (.aload_n 0, 1) := by decide +kernel
theorem dX6_relayScore_8 : decode cX6_relayScore 8 = .ok (.getfield 33, 3) := by decide +kernel
theorem dX6_relayScore_11 : decode cX6_relayScore 11 = .ok (.iload_n 1, 1) := by decide +kernel
theorem dX6_relayScore_12 : decode cX6_relayScore 12 = .ok (.iload_n 2, 1) := by decide +kernel
theorem dX6_relayScore_13 : decode cX6_relayScore 13 = .ok (.iload_n 3, 1) := by decide +kernel
theorem dX6_relayScore_14 : decode cX6_relayScore 14 = .ok (.invokevirtual 121, 3) := by decide +kernel
theorem dX6_relayScore_17 : decode cX6_relayScore 17 = .ok (.ifCond .ne 13, 3) := by decide +kernel
theorem dX6_relayScore_20 : decode cX6_relayScore 20 = .ok (.new 125, 3) := by decide +kernel
theorem dX6_relayScore_23 : decode cX6_relayScore 23 = .ok (.dup, 1) := by decide +kernel
theorem dX6_relayScore_24 : decode cX6_relayScore 24 = .ok (.ldc 127, 2) := by decide +kernel
theorem dX6_relayScore_26 : decode cX6_relayScore 26 = .ok (.invokespecial 129, 3) := by decide +kernel
theorem dX6_relayScore_29 : decode cX6_relayScore 29 = .ok (.athrow, 1) := by decide +kernel
theorem dX6_relayScore_30 : decode cX6_relayScore 30 = .ok (.aload_n 0, 1) := by decide +kernel
theorem dX6_relayScore_31 : decode cX6_relayScore 31 = .ok (.getfield 33, 3) := by decide +kernel
theorem dX6_relayScore_34 : decode cX6_relayScore 34 = .ok (.aload_n 0, 1) := by decide +kernel
theorem dX6_relayScore_35 : decode cX6_relayScore 35 = .ok (.getfield 23, 3) := by decide +kernel
theorem dX6_relayScore_38 : decode cX6_relayScore 38 = .ok (.iload_n 1, 1) := by decide +kernel
theorem dX6_relayScore_39 : decode cX6_relayScore 39 = .ok (.iload_n 2, 1) := by decide +kernel
theorem dX6_relayScore_40 : decode cX6_relayScore 40 = .ok (.iload_n 3, 1) := by decide +kernel
theorem dX6_relayScore_41 : decode cX6_relayScore 41 = .ok (.invokevirtual 130, 3) := by decide +kernel
theorem dX6_relayScore_44 : decode cX6_relayScore 44 = .ok (.ireturn, 1) := by decide +kernel
theorem dX6_sessions_0 : decode cX6_sessions 0 = .ok (.iconst 0, 1) := by decide +kernel
theorem dX6_sessions_1 : decode cX6_sessions 1 = .ok (.istore_n 1, 1) := by decide +kernel
theorem dX6_sessions_2 : decode cX6_sessions 2 = .ok (.iconst 0, 1) := by decide +kernel
theorem dX6_sessions_3 : decode cX6_sessions 3 = .ok (.istore_n 2, 1) := by decide +kernel
theorem dX6_sessions_4 : decode cX6_sessions 4 = .ok (.iload_n 2, 1) := by decide +kernel
theorem dX6_sessions_5 : decode cX6_sessions 5 = .ok (.bipush 6, 2) := by decide +kernel
theorem dX6_sessions_7 : decode cX6_sessions 7 = .ok (.if_icmp .ge 30, 3) := by decide +kernel
theorem dX6_sessions_10 : decode cX6_sessions 10 = .ok (.aload_n 0, 1) := by decide +kernel
theorem dX6_sessions_11 : decode cX6_sessions 11 = .ok (.getfield 33, 3) := by decide +kernel
theorem dX6_sessions_14 : decode cX6_sessions 14 = .ok (.getfield 134, 3) := by decide +kernel
theorem dX6_sessions_17 : decode cX6_sessions 17 = .ok (.iload_n 2, 1) := by decide +kernel
theorem dX6_sessions_18 : decode cX6_sessions 18 = .ok (.aaload, 1) := by decide +kernel
theorem dX6_sessions_19 : decode cX6_sessions 19 = .ok (.getfield 138, 3) := by decide +kernel
theorem dX6_sessions_22 : decode cX6_sessions 22 = .ok (.ifCond .eq 9, 3) := by decide +kernel
theorem dX6_sessions_25 : decode cX6_sessions 25 = .ok (.iload_n 1, 1) := by decide +kernel
theorem dX6_sessions_26 : decode cX6_sessions 26 = .ok (.iconst 1, 1) := by decide +kernel
theorem dX6_sessions_27 : decode cX6_sessions 27 = .ok (.iload_n 2, 1) := by decide +kernel
theorem dX6_sessions_28 : decode cX6_sessions 28 = .ok (.ishl, 1) := by decide +kernel
theorem dX6_sessions_29 : decode cX6_sessions 29 = .ok (.ior, 1) := by decide +kernel
theorem dX6_sessions_30 : decode cX6_sessions 30 = .ok (.istore_n 1, 1) := by decide +kernel
theorem dX6_sessions_31 : decode cX6_sessions 31 = .ok (.iinc 2 1, 3) := by decide +kernel
theorem dX6_sessions_34 : decode cX6_sessions 34 = .ok (.goto (-30), 3) := by decide +kernel
theorem dX6_sessions_37 : decode cX6_sessions 37 = .ok (.iload_n 1, 1) := by decide +kernel
theorem dX6_sessions_38 : decode cX6_sessions 38 = .ok (.ireturn, 1) := by decide +kernel
theorem dX6_session_0 : decode cX6_session 0 = .ok (.aload_n 0, 1) := by decide +kernel
theorem dX6_session_1 : decode cX6_session 1 = .ok (.iload_n 1, 1) := by decide +kernel
theorem dX6_session_2 : decode cX6_session 2 = .ok (.iload_n 2, 1) := by decide +kernel
theorem dX6_session_3 : decode cX6_session 3 = .ok (.invokevirtual 100, 3) := by decide +kernel
theorem dX6_session_6 : decode cX6_session 6 = .ok (.aload_n 0, 1) := by decide +kernel
theorem dX6_session_7 : decode cX6_session 7 = .ok (.getfield 33, 3) := by decide +kernel
theorem dX6_session_10 : decode cX6_session 10 = .ok (.iload_n 1, 1) := by decide +kernel
theorem dX6_session_11 : decode cX6_session 11 = .ok (.iload_n 2, 1) := by decide +kernel
theorem dX6_session_12 : decode cX6_session 12 = .ok (.invokevirtual 144, 3) := by decide +kernel
theorem dX6_session_15 : decode cX6_session 15 = .ok (.ireturn, 1) := by decide +kernel
theorem dX6_path_0 : decode cX6_path 0 = .ok (.aload_n 0, 1) := by decide +kernel
theorem dX6_path_1 : decode cX6_path 1 = .ok (.iload_n 1, 1) := by decide +kernel
theorem dX6_path_2 : decode cX6_path 2 = .ok (.invokevirtual 147, 3) := by decide +kernel
theorem dX6_path_5 : decode cX6_path 5 = .ok (.getfield 151, 3) := by decide +kernel
theorem dX6_path_8 : decode cX6_path 8 = .ok (.ireturn, 1) := by decide +kernel
theorem dX6_oldPath_0 : decode cX6_oldPath 0 = .ok (.aload_n 0, 1) := by decide +kernel
theorem dX6_oldPath_1 : decode cX6_oldPath 1 = .ok (.iload_n 1, 1) := by decide +kernel
theorem dX6_oldPath_2 : decode cX6_oldPath 2 = .ok (.invokevirtual 147, 3) := by decide +kernel
theorem dX6_oldPath_5 : decode cX6_oldPath 5 = .ok (.getfield 154, 3) := by decide +kernel
theorem dX6_oldPath_8 : decode cX6_oldPath 8 = .ok (.ireturn, 1) := by decide +kernel
theorem dX6_successes_0 : decode cX6_successes 0 = .ok (.aload_n 0, 1) := by decide +kernel
theorem dX6_successes_1 : decode cX6_successes 1 = .ok (.iload_n 1, 1) := by decide +kernel
theorem dX6_successes_2 : decode cX6_successes 2 = .ok (.invokevirtual 147, 3) := by decide +kernel
theorem dX6_successes_5 : decode cX6_successes 5 = .ok (.getfield 157, 3) := by decide +kernel
theorem dX6_successes_8 : decode cX6_successes 8 = .ok (.ireturn, 1) := by decide +kernel
theorem dX6_messages_0 : decode cX6_messages 0 = .ok (.aload_n 0, 1) := by decide +kernel
theorem dX6_messages_1 : decode cX6_messages 1 = .ok (.iload_n 1, 1) := by decide +kernel
theorem dX6_messages_2 : decode cX6_messages 2 = .ok (.invokevirtual 147, 3) := by decide +kernel
theorem dX6_messages_5 : decode cX6_messages 5 = .ok (.astore_n 3, 1) := by decide +kernel
theorem dX6_messages_6 : decode cX6_messages 6 = .ok (.iload_n 2, 1) := by decide +kernel
theorem dX6_messages_7 : decode cX6_messages 7 = .ok (.ifCond .lt 8, 3) := by decide +kernel
theorem dX6_messages_10 : decode cX6_messages 10 = .ok (.iload_n 2, 1) := by decide +kernel
theorem dX6_messages_11 : decode cX6_messages 11 = .ok (.iconst 3, 1) := by decide +kernel
theorem dX6_messages_12 : decode cX6_messages 12 = .ok (.if_icmp .le 13, 3) := by decide +kernel
theorem dX6_messages_15 : decode cX6_messages 15 = .ok (.new 59, 3) := by decide +kernel
theorem dX6_messages_18 : decode cX6_messages 18 = .ok (.dup, 1) := by decide +kernel
theorem dX6_messages_19 : decode cX6_messages 19 = .ok (.ldc 160, 2) := by decide +kernel
theorem dX6_messages_21 : decode cX6_messages 21 = .ok (.invokespecial 63, 3) := by decide +kernel
theorem dX6_messages_24 : decode cX6_messages 24 = .ok (.athrow, 1) := by decide +kernel
theorem dX6_messages_25 : decode cX6_messages 25 = .ok (.iload_n 2, 1) := by decide +kernel
theorem dX6_messages_26 : decode cX6_messages 26 = .ok (.iconst 3, 1) := by decide +kernel
theorem dX6_messages_27 : decode cX6_messages 27 = .ok (.if_icmp .ne 10, 3) := by decide +kernel
theorem dX6_messages_30 : decode cX6_messages 30 = .ok (.aload_n 3, 1) := by decide +kernel
theorem dX6_messages_31 : decode cX6_messages 31 = .ok (.getfield 162, 3) := by decide +kernel
theorem dX6_messages_34 : decode cX6_messages 34 = .ok (.goto 8, 3) := by decide +kernel
theorem dX6_messages_37 : decode cX6_messages 37 = .ok (.aload_n 3, 1) := by decide +kernel
theorem dX6_messages_38 : decode cX6_messages 38 = .ok (.iload_n 2, 1) := by decide +kernel
theorem dX6_messages_39 : decode cX6_messages 39 = .ok (.invokevirtual 165, 3) := by decide +kernel
theorem dX6_messages_42 : decode cX6_messages 42 = .ok (.ireturn, 1) := by decide +kernel
theorem dX6_lastValue_0 : decode cX6_lastValue 0 = .ok (.aload_n 0, 1) := by decide +kernel
theorem dX6_lastValue_1 : decode cX6_lastValue 1 = .ok (.iload_n 1, 1) := by decide +kernel
theorem dX6_lastValue_2 : decode cX6_lastValue 2 = .ok (.invokevirtual 147, 3) := by decide +kernel
theorem dX6_lastValue_5 : decode cX6_lastValue 5 = .ok (.astore_n 2, 1) := by decide +kernel
theorem dX6_lastValue_6 : decode cX6_lastValue 6 = .ok (.aload_n 2, 1) := by decide +kernel
theorem dX6_lastValue_7 : decode cX6_lastValue 7 = .ok (.getfield 162, 3) := by decide +kernel
theorem dX6_lastValue_10 : decode cX6_lastValue 10 = .ok (.ifCond .ne 13, 3) := by decide +kernel
theorem dX6_lastValue_13 : decode cX6_lastValue 13 = .ok (.new 125, 3) := by decide +kernel
theorem dX6_lastValue_16 : decode cX6_lastValue 16 = .ok (.dup, 1) := by decide +kernel
theorem dX6_lastValue_17 : decode cX6_lastValue 17 = .ok (.ldc 168, 2) := by decide +kernel
theorem dX6_lastValue_19 : decode cX6_lastValue 19 = .ok (.invokespecial 129, 3) := by decide +kernel
theorem dX6_lastValue_22 : decode cX6_lastValue 22 = .ok (.athrow, 1) := by decide +kernel
theorem dX6_lastValue_23 : decode cX6_lastValue 23 = .ok (.aload_n 2, 1) := by decide +kernel
theorem dX6_lastValue_24 : decode cX6_lastValue 24 = .ok (.getfield 170, 3) := by decide +kernel
theorem dX6_lastValue_27 : decode cX6_lastValue 27 = .ok (.ireturn, 1) := by decide +kernel
theorem dX6_digest_0 : decode cX6_digest 0 = .ok (.aload_n 0, 1) := by decide +kernel
theorem dX6_digest_1 : decode cX6_digest 1 = .ok (.iload_n 1, 1) := by decide +kernel
theorem dX6_digest_2 : decode cX6_digest 2 = .ok (.invokevirtual 147, 3) := by decide +kernel
theorem dX6_digest_5 : decode cX6_digest 5 = .ok (.getfield 173, 3) := by decide +kernel
theorem dX6_digest_8 : decode cX6_digest 8 = .ok (.ireturn, 1) := by decide +kernel
theorem dX6_key_0 : decode cX6_key 0 = .ok (.aload_n 0, 1) := by decide +kernel
theorem dX6_key_1 : decode cX6_key 1 = .ok (.iload_n 1, 1) := by decide +kernel
theorem dX6_key_2 : decode cX6_key 2 = .ok (.invokevirtual 147, 3) := by decide +kernel
theorem dX6_key_5 : decode cX6_key 5 = .ok (.getfield 176, 3) := by decide +kernel
theorem dX6_key_8 : decode cX6_key 8 = .ok (.ireturn, 1) := by decide +kernel
theorem dX6_oldestKey_0 : decode cX6_oldestKey 0 = .ok (.aload_n 0, 1) := by decide +kernel
theorem dX6_oldestKey_1 : decode cX6_oldestKey 1 = .ok (.iload_n 1, 1) := by decide +kernel
theorem dX6_oldestKey_2 : decode cX6_oldestKey 2 = .ok (.invokevirtual 147, 3) := by decide +kernel
theorem dX6_oldestKey_5 : decode cX6_oldestKey 5 = .ok (.invokevirtual 179, 3) := by decide +kernel
theorem dX6_oldestKey_8 : decode cX6_oldestKey 8 = .ok (.ireturn, 1) := by decide +kernel
theorem dX6_keyStart_0 : decode cX6_keyStart 0 = .ok (.aload_n 0, 1) := by decide +kernel
theorem dX6_keyStart_1 : decode cX6_keyStart 1 = .ok (.iload_n 1, 1) := by decide +kernel
theorem dX6_keyStart_2 : decode cX6_keyStart 2 = .ok (.invokevirtual 147, 3) := by decide +kernel
theorem dX6_keyStart_5 : decode cX6_keyStart 5 = .ok (.astore_n 2, 1) := by decide +kernel
theorem dX6_keyStart_6 : decode cX6_keyStart 6 = .ok (.aload_n 2, 1) := by decide +kernel
theorem dX6_keyStart_7 : decode cX6_keyStart 7 = .ok (.getfield 182, 3) := by decide +kernel
theorem dX6_keyStart_10 : decode cX6_keyStart 10 = .ok (.aload_n 2, 1) := by decide +kernel
theorem dX6_keyStart_11 : decode cX6_keyStart 11 = .ok (.getfield 185, 3) := by decide +kernel
theorem dX6_keyStart_14 : decode cX6_keyStart 14 = .ok (.isub, 1) := by decide +kernel
theorem dX6_keyStart_15 : decode cX6_keyStart 15 = .ok (.ireturn, 1) := by decide +kernel
theorem dX6_ticksToDeliver_0 : decode cX6_ticksToDeliver 0 = .ok (.aload_n 0, 1) := by decide +kernel
theorem dX6_ticksToDeliver_1 : decode cX6_ticksToDeliver 1 = .ok (.iload_n 1, 1) := by decide +kernel
theorem dX6_ticksToDeliver_2 : decode cX6_ticksToDeliver 2 = .ok (.invokevirtual 188, 3) := by decide +kernel
theorem dX6_ticksToDeliver_5 : decode cX6_ticksToDeliver 5 = .ok (.astore_n 2, 1) := by decide +kernel
theorem dX6_ticksToDeliver_6 : decode cX6_ticksToDeliver 6 = .ok (.iconst 0, 1) := by decide +kernel
theorem dX6_ticksToDeliver_7 : decode cX6_ticksToDeliver 7 = .ok (.istore_n 3, 1) := by decide +kernel
theorem dX6_ticksToDeliver_8 : decode cX6_ticksToDeliver 8 = .ok (.iload_n 3, 1) := by decide +kernel
theorem dX6_ticksToDeliver_9 : decode cX6_ticksToDeliver 9 = .ok (.sipush 300, 3) := by decide +kernel
theorem dX6_ticksToDeliver_12 : decode cX6_ticksToDeliver 12 = .ok (.if_icmp .gt 34, 3) := by decide +kernel
theorem dX6_ticksToDeliver_15 : decode cX6_ticksToDeliver 15 = .ok (.aload_n 2, 1) := by decide +kernel
theorem dX6_ticksToDeliver_16 : decode cX6_ticksToDeliver 16 = .ok (.getfield 162, 3) := by decide +kernel
theorem dX6_ticksToDeliver_19 : decode cX6_ticksToDeliver 19 = .ok (.aload_n 2, 1) := by decide +kernel
theorem dX6_ticksToDeliver_20 : decode cX6_ticksToDeliver 20 = .ok (.getfield 182, 3) := by decide +kernel
theorem dX6_ticksToDeliver_23 : decode cX6_ticksToDeliver 23 = .ok (.if_icmp .ne 5, 3) := by decide +kernel
theorem dX6_ticksToDeliver_26 : decode cX6_ticksToDeliver 26 = .ok (.iload_n 3, 1) := by decide +kernel
theorem dX6_ticksToDeliver_27 : decode cX6_ticksToDeliver 27 = .ok (.ireturn, 1) := by decide +kernel
theorem dX6_ticksToDeliver_28 : decode cX6_ticksToDeliver 28 = .ok (.aload_n 0, 1) := by decide +kernel
theorem dX6_ticksToDeliver_29 : decode cX6_ticksToDeliver 29 = .ok (.getfield 37, 3) := by decide +kernel
theorem dX6_ticksToDeliver_32 : decode cX6_ticksToDeliver 32 = .ok (.aload_n 0, 1) := by decide +kernel
theorem dX6_ticksToDeliver_33 : decode cX6_ticksToDeliver 33 = .ok (.getfield 23, 3) := by decide +kernel
theorem dX6_ticksToDeliver_36 : decode cX6_ticksToDeliver 36 = .ok (.invokevirtual 191, 3) := by decide +kernel
theorem dX6_ticksToDeliver_39 : decode cX6_ticksToDeliver 39 = .ok (.pop, 1) := by decide +kernel
theorem dX6_ticksToDeliver_40 : decode cX6_ticksToDeliver 40 = .ok (.iinc 3 1, 3) := by decide +kernel
theorem dX6_ticksToDeliver_43 : decode cX6_ticksToDeliver 43 = .ok (.goto (-35), 3) := by decide +kernel
theorem dX6_ticksToDeliver_46 : decode cX6_ticksToDeliver 46 = .ok (.iconst (-1), 1) := by decide +kernel
theorem dX6_ticksToDeliver_47 : decode cX6_ticksToDeliver 47 = .ok (.ireturn, 1) := by decide +kernel
theorem dX6_ticksToDirect_0 : decode cX6_ticksToDirect 0 = .ok (.aload_n 0, 1) := by decide +kernel
theorem dX6_ticksToDirect_1 : decode cX6_ticksToDirect 1 = .ok (.iload_n 1, 1) := by decide +kernel
theorem dX6_ticksToDirect_2 : decode cX6_ticksToDirect 2 = .ok (.invokevirtual 188, 3) := by decide +kernel
theorem dX6_ticksToDirect_5 : decode cX6_ticksToDirect 5 = .ok (.astore_n 2, 1) := by decide +kernel
theorem dX6_ticksToDirect_6 : decode cX6_ticksToDirect 6 = .ok (.iconst 0, 1) := by decide +kernel
theorem dX6_ticksToDirect_7 : decode cX6_ticksToDirect 7 = .ok (.istore_n 3, 1) := by decide +kernel
theorem dX6_ticksToDirect_8 : decode cX6_ticksToDirect 8 = .ok (.iload_n 3, 1) := by decide +kernel
theorem dX6_ticksToDirect_9 : decode cX6_ticksToDirect 9 = .ok (.sipush 300, 3) := by decide +kernel
theorem dX6_ticksToDirect_12 : decode cX6_ticksToDirect 12 = .ok (.if_icmp .gt 32, 3) := by decide +kernel
theorem dX6_ticksToDirect_15 : decode cX6_ticksToDirect 15 = .ok (.aload_n 2, 1) := by decide +kernel
theorem dX6_ticksToDirect_16 : decode cX6_ticksToDirect 16 = .ok (.getfield 151, 3) := by decide +kernel
theorem dX6_ticksToDirect_19 : decode cX6_ticksToDirect 19 = .ok (.bipush 100, 2) := by decide +kernel
theorem dX6_ticksToDirect_21 : decode cX6_ticksToDirect 21 = .ok (.if_icmp .ne 5, 3) := by decide +kernel
theorem dX6_ticksToDirect_24 : decode cX6_ticksToDirect 24 = .ok (.iload_n 3, 1) := by decide +kernel
theorem dX6_ticksToDirect_25 : decode cX6_ticksToDirect 25 = .ok (.ireturn, 1) := by decide +kernel
theorem dX6_ticksToDirect_26 : decode cX6_ticksToDirect 26 = .ok (.aload_n 0, 1) := by decide +kernel
theorem dX6_ticksToDirect_27 : decode cX6_ticksToDirect 27 = .ok (.getfield 37, 3) := by decide +kernel
theorem dX6_ticksToDirect_30 : decode cX6_ticksToDirect 30 = .ok (.aload_n 0, 1) := by decide +kernel
theorem dX6_ticksToDirect_31 : decode cX6_ticksToDirect 31 = .ok (.getfield 23, 3) := by decide +kernel
theorem dX6_ticksToDirect_34 : decode cX6_ticksToDirect 34 = .ok (.invokevirtual 191, 3) := by decide +kernel
theorem dX6_ticksToDirect_37 : decode cX6_ticksToDirect 37 = .ok (.pop, 1) := by decide +kernel
theorem dX6_ticksToDirect_38 : decode cX6_ticksToDirect 38 = .ok (.iinc 3 1, 3) := by decide +kernel
theorem dX6_ticksToDirect_41 : decode cX6_ticksToDirect 41 = .ok (.goto (-33), 3) := by decide +kernel
theorem dX6_ticksToDirect_44 : decode cX6_ticksToDirect 44 = .ok (.iconst (-1), 1) := by decide +kernel
theorem dX6_ticksToDirect_45 : decode cX6_ticksToDirect 45 = .ok (.ireturn, 1) := by decide +kernel
theorem dX6_run_0 : decode cX6_run 0 = .ok (.iload_n 1, 1) := by decide +kernel
theorem dX6_run_1 : decode cX6_run 1 = .ok (.iconst 1, 1) := by decide +kernel
theorem dX6_run_2 : decode cX6_run 2 = .ok (.if_icmp .lt 10, 3) := by decide +kernel
theorem dX6_run_5 : decode cX6_run 5 = .ok (.iload_n 1, 1) := by decide +kernel
theorem dX6_run_6 : decode cX6_run 6 = .ok (.sipush 300, 3) := by decide +kernel
theorem dX6_run_9 : decode cX6_run 9 = .ok (.if_icmp .le 13, 3) := by decide +kernel
theorem dX6_run_12 : decode cX6_run 12 = .ok (.new 59, 3) := by decide +kernel
theorem dX6_run_15 : decode cX6_run 15 = .ok (.dup, 1) := by decide +kernel
theorem dX6_run_16 : decode cX6_run 16 = .ok (.ldc 195, 2) := by decide +kernel
theorem dX6_run_18 : decode cX6_run 18 = .ok (.invokespecial 63, 3) := by decide +kernel
theorem dX6_run_21 : decode cX6_run 21 = .ok (.athrow, 1) := by decide +kernel
theorem dX6_run_22 : decode cX6_run 22 = .ok (.iload_n 1, 1) := by decide +kernel
theorem dX6_run_23 : decode cX6_run 23 = .ok (.sipush 9999, 3) := by decide +kernel
theorem dX6_run_26 : decode cX6_run 26 = .ok (.aload_n 0, 1) := by decide +kernel
theorem dX6_run_27 : decode cX6_run 27 = .ok (.getfield 33, 3) := by decide +kernel
theorem dX6_run_30 : decode cX6_run 30 = .ok (.getfield 82, 3) := by decide +kernel
theorem dX6_run_33 : decode cX6_run 33 = .ok (.isub, 1) := by decide +kernel
theorem dX6_run_34 : decode cX6_run 34 = .ok (.if_icmp .le 13, 3) := by decide +kernel
theorem dX6_run_37 : decode cX6_run 37 = .ok (.new 125, 3) := by decide +kernel
theorem dX6_run_40 : decode cX6_run 40 = .ok (.dup, 1) := by decide +kernel
theorem dX6_run_41 : decode cX6_run 41 = .ok (.ldc 197, 2) := by decide +kernel
theorem dX6_run_43 : decode cX6_run 43 = .ok (.invokespecial 129, 3) := by decide +kernel
theorem dX6_run_46 : decode cX6_run 46 = .ok (.athrow, 1) := by decide +kernel
theorem dX6_run_47 : decode cX6_run 47 = .ok (.aload_n 0, 1) := by decide +kernel
theorem dX6_run_48 : decode cX6_run 48 = .ok (.getfield 43, 3) := by decide +kernel
theorem dX6_run_51 : decode cX6_run 51 = .ok (.aload_n 0, 1) := by decide +kernel
theorem dX6_run_52 : decode cX6_run 52 = .ok (.getfield 33, 3) := by decide +kernel
theorem dX6_run_55 : decode cX6_run 55 = .ok (.invokevirtual 199, 3) := by decide +kernel
theorem dX6_run_58 : decode cX6_run 58 = .ok (.iconst 0, 1) := by decide +kernel
theorem dX6_run_59 : decode cX6_run 59 = .ok (.istore_n 2, 1) := by decide +kernel
theorem dX6_run_60 : decode cX6_run 60 = .ok (.iconst 0, 1) := by decide +kernel
theorem dX6_run_61 : decode cX6_run 61 = .ok (.istore_n 3, 1) := by decide +kernel
theorem dX6_run_62 : decode cX6_run 62 = .ok (.iload_n 3, 1) := by decide +kernel
theorem dX6_run_63 : decode cX6_run 63 = .ok (.iload_n 1, 1) := by decide +kernel
theorem dX6_run_64 : decode cX6_run 64 = .ok (.if_icmp .ge 23, 3) := by decide +kernel
theorem dX6_run_67 : decode cX6_run 67 = .ok (.iload_n 2, 1) := by decide +kernel
theorem dX6_run_68 : decode cX6_run 68 = .ok (.aload_n 0, 1) := by decide +kernel
theorem dX6_run_69 : decode cX6_run 69 = .ok (.getfield 33, 3) := by decide +kernel
theorem dX6_run_72 : decode cX6_run 72 = .ok (.aload_n 0, 1) := by decide +kernel
theorem dX6_run_73 : decode cX6_run 73 = .ok (.getfield 23, 3) := by decide +kernel
theorem dX6_run_76 : decode cX6_run 76 = .ok (.invokevirtual 191, 3) := by decide +kernel
theorem dX6_run_79 : decode cX6_run 79 = .ok (.iadd, 1) := by decide +kernel
theorem dX6_run_80 : decode cX6_run 80 = .ok (.istore_n 2, 1) := by decide +kernel
theorem dX6_run_81 : decode cX6_run 81 = .ok (.iinc 3 1, 3) := by decide +kernel
theorem dX6_run_84 : decode cX6_run 84 = .ok (.goto (-22), 3) := by decide +kernel
theorem dX6_run_87 : decode cX6_run 87 = .ok (.iload_n 2, 1) := by decide +kernel
theorem dX6_run_88 : decode cX6_run 88 = .ok (.ireturn, 1) := by decide +kernel
theorem dX6_introduce_0 : decode cX6_introduce 0 = .ok (.aload_n 0, 1) := by decide +kernel
theorem dX6_introduce_1 : decode cX6_introduce 1 = .ok (.iload_n 1, 1) := by decide +kernel
theorem dX6_introduce_2 : decode cX6_introduce 2 = .ok (.iload_n 2, 1) := by decide +kernel
theorem dX6_introduce_3 : decode cX6_introduce 3 = .ok (.iload_n 3, 1) := by decide +kernel
theorem dX6_introduce_4 : decode cX6_introduce 4 = .ok (.invokevirtual 117, 3) := by decide +kernel
theorem dX6_introduce_7 : decode cX6_introduce 7 = .ok (.aload_n 0, 1) := by decide +kernel
theorem dX6_introduce_8 : decode cX6_introduce 8 = .ok (.getfield 33, 3) := by decide +kernel
theorem dX6_introduce_11 : decode cX6_introduce 11 = .ok (.iload_n 1, 1) := by decide +kernel
theorem dX6_introduce_12 : decode cX6_introduce 12 = .ok (.iload_n 2, 1) := by decide +kernel
theorem dX6_introduce_13 : decode cX6_introduce 13 = .ok (.invokevirtual 89, 3) := by decide +kernel
theorem dX6_introduce_16 : decode cX6_introduce 16 = .ok (.ifCond .eq 15, 3) := by decide +kernel
theorem dX6_introduce_19 : decode cX6_introduce 19 = .ok (.aload_n 0, 1) := by decide +kernel
theorem dX6_introduce_20 : decode cX6_introduce 20 = .ok (.getfield 33, 3) := by decide +kernel
theorem dX6_introduce_23 : decode cX6_introduce 23 = .ok (.iload_n 1, 1) := by decide +kernel
theorem dX6_introduce_24 : decode cX6_introduce 24 = .ok (.iload_n 3, 1) := by decide +kernel
theorem dX6_introduce_25 : decode cX6_introduce 25 = .ok (.invokevirtual 89, 3) := by decide +kernel
theorem dX6_introduce_28 : decode cX6_introduce 28 = .ok (.ifCond .ne 13, 3) := by decide +kernel
theorem dX6_introduce_31 : decode cX6_introduce 31 = .ok (.new 125, 3) := by decide +kernel
theorem dX6_introduce_34 : decode cX6_introduce 34 = .ok (.dup, 1) := by decide +kernel
theorem dX6_introduce_35 : decode cX6_introduce 35 = .ok (.ldc 203, 2) := by decide +kernel
theorem dX6_introduce_37 : decode cX6_introduce 37 = .ok (.invokespecial 129, 3) := by decide +kernel
theorem dX6_introduce_40 : decode cX6_introduce 40 = .ok (.athrow, 1) := by decide +kernel
theorem dX6_introduce_41 : decode cX6_introduce 41 = .ok (.aload_n 0, 1) := by decide +kernel
theorem dX6_introduce_42 : decode cX6_introduce 42 = .ok (.getfield 33, 3) := by decide +kernel
theorem dX6_introduce_45 : decode cX6_introduce 45 = .ok (.iload_n 2, 1) := by decide +kernel
theorem dX6_introduce_46 : decode cX6_introduce 46 = .ok (.iload_n 3, 1) := by decide +kernel
theorem dX6_introduce_47 : decode cX6_introduce 47 = .ok (.invokevirtual 89, 3) := by decide +kernel
theorem dX6_introduce_50 : decode cX6_introduce 50 = .ok (.ifCond .eq 13, 3) := by decide +kernel
theorem dX6_introduce_53 : decode cX6_introduce 53 = .ok (.new 125, 3) := by decide +kernel
theorem dX6_introduce_56 : decode cX6_introduce 56 = .ok (.dup, 1) := by decide +kernel
theorem dX6_introduce_57 : decode cX6_introduce 57 = .ok (.ldc 205, 2) := by decide +kernel
theorem dX6_introduce_59 : decode cX6_introduce 59 = .ok (.invokespecial 129, 3) := by decide +kernel
theorem dX6_introduce_62 : decode cX6_introduce 62 = .ok (.athrow, 1) := by decide +kernel
theorem dX6_introduce_63 : decode cX6_introduce 63 = .ok (.aload_n 0, 1) := by decide +kernel
theorem dX6_introduce_64 : decode cX6_introduce 64 = .ok (.getfield 43, 3) := by decide +kernel
theorem dX6_introduce_67 : decode cX6_introduce 67 = .ok (.aload_n 0, 1) := by decide +kernel
theorem dX6_introduce_68 : decode cX6_introduce 68 = .ok (.getfield 33, 3) := by decide +kernel
theorem dX6_introduce_71 : decode cX6_introduce 71 = .ok (.invokevirtual 199, 3) := by decide +kernel
theorem dX6_introduce_74 : decode cX6_introduce 74 = .ok (.aload_n 0, 1) := by decide +kernel
theorem dX6_introduce_75 : decode cX6_introduce 75 = .ok (.getfield 33, 3) := by decide +kernel
theorem dX6_introduce_78 : decode cX6_introduce 78 = .ok (.iload_n 2, 1) := by decide +kernel
theorem dX6_introduce_79 : decode cX6_introduce 79 = .ok (.iload_n 3, 1) := by decide +kernel
theorem dX6_introduce_80 : decode cX6_introduce 80 = .ok (.invokevirtual 207, 3) := by decide +kernel
theorem dX6_introduce_83 : decode cX6_introduce 83 = .ok (.aload_n 0, 1) := by decide +kernel
theorem dX6_introduce_84 : decode cX6_introduce 84 = .ok (.getfield 33, 3) := by decide +kernel
theorem dX6_introduce_87 : decode cX6_introduce 87 = .ok (.getfield 210, 3) := by decide +kernel
theorem dX6_introduce_90 : decode cX6_introduce 90 = .ok (.iload_n 2, 1) := by decide +kernel
theorem dX6_introduce_91 : decode cX6_introduce 91 = .ok (.iaload, 1) := by decide +kernel
theorem dX6_introduce_92 : decode cX6_introduce 92 = .ok (.invokestatic 214, 3) := by decide +kernel
theorem dX6_introduce_95 : decode cX6_introduce 95 = .ok (.ireturn, 1) := by decide +kernel
theorem dX6_open_0 : decode cX6_open 0 = .ok (.aload_n 0, 1) := by decide +kernel
theorem dX6_open_1 : decode cX6_open 1 = .ok (.iload_n 1, 1) := by decide +kernel
theorem dX6_open_2 : decode cX6_open 2 = .ok (.iload_n 2, 1) := by decide +kernel
theorem dX6_open_3 : decode cX6_open 3 = .ok (.invokevirtual 100, 3) := by decide +kernel
theorem dX6_open_6 : decode cX6_open 6 = .ok (.aload_n 0, 1) := by decide +kernel
theorem dX6_open_7 : decode cX6_open 7 = .ok (.getfield 33, 3) := by decide +kernel
theorem dX6_open_10 : decode cX6_open 10 = .ok (.invokevirtual 219, 3) := by decide +kernel
theorem dX6_open_13 : decode cX6_open 13 = .ok (.istore_n 3, 1) := by decide +kernel
theorem dX6_open_14 : decode cX6_open 14 = .ok (.iload_n 3, 1) := by decide +kernel
theorem dX6_open_15 : decode cX6_open 15 = .ok (.iconst (-1), 1) := by decide +kernel
theorem dX6_open_16 : decode cX6_open 16 = .ok (.if_icmp .ne 13, 3) := by decide +kernel
theorem dX6_open_19 : decode cX6_open 19 = .ok (.new 125, 3) := by decide +kernel
theorem dX6_open_22 : decode cX6_open 22 = .ok (.dup, 1) := by decide +kernel
theorem dX6_open_23 : decode cX6_open 23 = .ok (.ldc 222, 2) := by decide +kernel
theorem dX6_open_25 : decode cX6_open 25 = .ok (.invokespecial 129, 3) := by decide +kernel
theorem dX6_open_28 : decode cX6_open 28 = .ok (.athrow, 1) := by decide +kernel
theorem dX6_open_29 : decode cX6_open 29 = .ok (.aload_n 0, 1) := by decide +kernel
theorem dX6_open_30 : decode cX6_open 30 = .ok (.getfield 33, 3) := by decide +kernel
theorem dX6_open_33 : decode cX6_open 33 = .ok (.iload_n 1, 1) := by decide +kernel
theorem dX6_open_34 : decode cX6_open 34 = .ok (.iload_n 2, 1) := by decide +kernel
theorem dX6_open_35 : decode cX6_open 35 = .ok (.invokevirtual 89, 3) := by decide +kernel
theorem dX6_open_38 : decode cX6_open 38 = .ok (.ifCond .ne 13, 3) := by decide +kernel
theorem dX6_open_41 : decode cX6_open 41 = .ok (.new 125, 3) := by decide +kernel
theorem dX6_open_44 : decode cX6_open 44 = .ok (.dup, 1) := by decide +kernel
theorem dX6_open_45 : decode cX6_open 45 = .ok (.ldc 224, 2) := by decide +kernel
theorem dX6_open_47 : decode cX6_open 47 = .ok (.invokespecial 129, 3) := by decide +kernel
theorem dX6_open_50 : decode cX6_open 50 = .ok (.athrow, 1) := by decide +kernel
theorem dX6_open_51 : decode cX6_open 51 = .ok (.aload_n 0, 1) := by decide +kernel
theorem dX6_open_52 : decode cX6_open 52 = .ok (.getfield 33, 3) := by decide +kernel
theorem dX6_open_55 : decode cX6_open 55 = .ok (.iload_n 1, 1) := by decide +kernel
theorem dX6_open_56 : decode cX6_open 56 = .ok (.iload_n 2, 1) := by decide +kernel
theorem dX6_open_57 : decode cX6_open 57 = .ok (.invokevirtual 144, 3) := by decide +kernel
theorem dX6_open_60 : decode cX6_open 60 = .ok (.iconst (-1), 1) := by decide +kernel
theorem dX6_open_61 : decode cX6_open 61 = .ok (.if_icmp .eq 13, 3) := by decide +kernel
theorem dX6_open_64 : decode cX6_open 64 = .ok (.new 125, 3) := by decide +kernel
theorem dX6_open_67 : decode cX6_open 67 = .ok (.dup, 1) := by decide +kernel
theorem dX6_open_68 : decode cX6_open 68 = .ok (.ldc 226, 2) := by decide +kernel
theorem dX6_open_70 : decode cX6_open 70 = .ok (.invokespecial 129, 3) := by decide +kernel
theorem dX6_open_73 : decode cX6_open 73 = .ok (.athrow, 1) := by decide +kernel
theorem dX6_open_74 : decode cX6_open 74 = .ok (.aload_n 0, 1) := by decide +kernel
theorem dX6_open_75 : decode cX6_open 75 = .ok (.getfield 43, 3) := by decide +kernel
theorem dX6_open_78 : decode cX6_open 78 = .ok (.aload_n 0, 1) := by decide +kernel
theorem dX6_open_79 : decode cX6_open 79 = .ok (.getfield 33, 3) := by decide +kernel
theorem dX6_open_82 : decode cX6_open 82 = .ok (.invokevirtual 199, 3) := by decide +kernel
theorem dX6_open_85 : decode cX6_open 85 = .ok (.aload_n 0, 1) := by decide +kernel
theorem dX6_open_86 : decode cX6_open 86 = .ok (.getfield 33, 3) := by decide +kernel
theorem dX6_open_89 : decode cX6_open 89 = .ok (.aload_n 0, 1) := by decide +kernel
theorem dX6_open_90 : decode cX6_open 90 = .ok (.getfield 23, 3) := by decide +kernel
theorem dX6_open_93 : decode cX6_open 93 = .ok (.iload_n 1, 1) := by decide +kernel
theorem dX6_open_94 : decode cX6_open 94 = .ok (.iload_n 2, 1) := by decide +kernel
theorem dX6_open_95 : decode cX6_open 95 = .ok (.invokevirtual 113, 3) := by decide +kernel
theorem dX6_open_98 : decode cX6_open 98 = .ok (.istore 4, 2) := by decide +kernel
theorem dX6_open_100 : decode cX6_open 100 = .ok (.aload_n 0, 1) := by decide +kernel
theorem dX6_open_101 : decode cX6_open 101 = .ok (.getfield 33, 3) := by decide +kernel
theorem dX6_open_104 : decode cX6_open 104 = .ok (.getfield 134, 3) := by decide +kernel
theorem dX6_open_107 : decode cX6_open 107 = .ok (.iload_n 3, 1) := by decide +kernel
theorem dX6_open_108 : decode cX6_open 108 = .ok (.aaload, 1) := by decide +kernel
theorem dX6_open_109 : decode cX6_open 109 = .ok (.iload_n 1, 1) := by decide +kernel
theorem dX6_open_110 : decode cX6_open 110 = .ok (.iload_n 2, 1) := by decide +kernel
theorem dX6_open_111 : decode cX6_open 111 = .ok (.aload_n 0, 1) := by decide +kernel
theorem dX6_open_112 : decode cX6_open 112 = .ok (.getfield 33, 3) := by decide +kernel
theorem dX6_open_115 : decode cX6_open 115 = .ok (.getfield 82, 3) := by decide +kernel
theorem dX6_open_118 : decode cX6_open 118 = .ok (.iload 4, 2) := by decide +kernel
theorem dX6_open_120 : decode cX6_open 120 = .ok (.invokevirtual 228, 3) := by decide +kernel
theorem dX6_open_123 : decode cX6_open 123 = .ok (.iload_n 3, 1) := by decide +kernel
theorem dX6_open_124 : decode cX6_open 124 = .ok (.ireturn, 1) := by decide +kernel
theorem dX6_send_0 : decode cX6_send 0 = .ok (.aload_n 0, 1) := by decide +kernel
theorem dX6_send_1 : decode cX6_send 1 = .ok (.iload_n 1, 1) := by decide +kernel
theorem dX6_send_2 : decode cX6_send 2 = .ok (.invokevirtual 147, 3) := by decide +kernel
theorem dX6_send_5 : decode cX6_send 5 = .ok (.astore_n 3, 1) := by decide +kernel
theorem dX6_send_6 : decode cX6_send 6 = .ok (.aload_n 3, 1) := by decide +kernel
theorem dX6_send_7 : decode cX6_send 7 = .ok (.getfield 182, 3) := by decide +kernel
theorem dX6_send_10 : decode cX6_send 10 = .ok (.aload_n 3, 1) := by decide +kernel
theorem dX6_send_11 : decode cX6_send 11 = .ok (.getfield 162, 3) := by decide +kernel
theorem dX6_send_14 : decode cX6_send 14 = .ok (.isub, 1) := by decide +kernel
theorem dX6_send_15 : decode cX6_send 15 = .ok (.bipush 24, 2) := by decide +kernel
theorem dX6_send_17 : decode cX6_send 17 = .ok (.if_icmp .lt 13, 3) := by decide +kernel
theorem dX6_send_20 : decode cX6_send 20 = .ok (.new 125, 3) := by decide +kernel
theorem dX6_send_23 : decode cX6_send 23 = .ok (.dup, 1) := by decide +kernel
theorem dX6_send_24 : decode cX6_send 24 = .ok (.ldc 232, 2) := by decide +kernel
theorem dX6_send_26 : decode cX6_send 26 = .ok (.invokespecial 129, 3) := by decide +kernel
theorem dX6_send_29 : decode cX6_send 29 = .ok (.athrow, 1) := by decide +kernel
theorem dX6_send_30 : decode cX6_send 30 = .ok (.aload_n 0, 1) := by decide +kernel
theorem dX6_send_31 : decode cX6_send 31 = .ok (.getfield 43, 3) := by decide +kernel
theorem dX6_send_34 : decode cX6_send 34 = .ok (.aload_n 0, 1) := by decide +kernel
theorem dX6_send_35 : decode cX6_send 35 = .ok (.getfield 33, 3) := by decide +kernel
theorem dX6_send_38 : decode cX6_send 38 = .ok (.invokevirtual 199, 3) := by decide +kernel
theorem dX6_send_41 : decode cX6_send 41 = .ok (.aload_n 3, 1) := by decide +kernel
theorem dX6_send_42 : decode cX6_send 42 = .ok (.iload_n 2, 1) := by decide +kernel
theorem dX6_send_43 : decode cX6_send 43 = .ok (.aload_n 0, 1) := by decide +kernel
theorem dX6_send_44 : decode cX6_send 44 = .ok (.getfield 23, 3) := by decide +kernel
theorem dX6_send_47 : decode cX6_send 47 = .ok (.getfield 234, 3) := by decide +kernel
theorem dX6_send_50 : decode cX6_send 50 = .ok (.aload_n 0, 1) := by decide +kernel
theorem dX6_send_51 : decode cX6_send 51 = .ok (.getfield 33, 3) := by decide +kernel
theorem dX6_send_54 : decode cX6_send 54 = .ok (.getfield 82, 3) := by decide +kernel
theorem dX6_send_57 : decode cX6_send 57 = .ok (.aload_n 0, 1) := by decide +kernel
theorem dX6_send_58 : decode cX6_send 58 = .ok (.getfield 23, 3) := by decide +kernel
theorem dX6_send_61 : decode cX6_send 61 = .ok (.aload_n 3, 1) := by decide +kernel
theorem dX6_send_62 : decode cX6_send 62 = .ok (.invokevirtual 237, 3) := by decide +kernel
theorem dX6_send_65 : decode cX6_send 65 = .ok (.iadd, 1) := by decide +kernel
theorem dX6_send_66 : decode cX6_send 66 = .ok (.invokevirtual 241, 3) := by decide +kernel
theorem dX6_send_69 : decode cX6_send 69 = .ok (.ireturn, 1) := by decide +kernel
theorem dX6_setLink_0 : decode cX6_setLink 0 = .ok (.aload_n 0, 1) := by decide +kernel
theorem dX6_setLink_1 : decode cX6_setLink 1 = .ok (.iload_n 1, 1) := by decide +kernel
theorem dX6_setLink_2 : decode cX6_setLink 2 = .ok (.iload_n 2, 1) := by decide +kernel
theorem dX6_setLink_3 : decode cX6_setLink 3 = .ok (.invokevirtual 100, 3) := by decide +kernel
theorem dX6_setLink_6 : decode cX6_setLink 6 = .ok (.aload_n 0, 1) := by decide +kernel
theorem dX6_setLink_7 : decode cX6_setLink 7 = .ok (.getfield 23, 3) := by decide +kernel
theorem dX6_setLink_10 : decode cX6_setLink 10 = .ok (.iload_n 1, 1) := by decide +kernel
theorem dX6_setLink_11 : decode cX6_setLink 11 = .ok (.iload_n 2, 1) := by decide +kernel
theorem dX6_setLink_12 : decode cX6_setLink 12 = .ok (.invokevirtual 96, 3) := by decide +kernel
theorem dX6_setLink_15 : decode cX6_setLink 15 = .ok (.ifCond .ne 13, 3) := by decide +kernel
theorem dX6_setLink_18 : decode cX6_setLink 18 = .ok (.new 125, 3) := by decide +kernel
theorem dX6_setLink_21 : decode cX6_setLink 21 = .ok (.dup, 1) := by decide +kernel
theorem dX6_setLink_22 : decode cX6_setLink 22 = .ok (.ldc 245, 2) := by decide +kernel
theorem dX6_setLink_24 : decode cX6_setLink 24 = .ok (.invokespecial 129, 3) := by decide +kernel
theorem dX6_setLink_27 : decode cX6_setLink 27 = .ok (.athrow, 1) := by decide +kernel
theorem dX6_setLink_28 : decode cX6_setLink 28 = .ok (.aload_n 0, 1) := by decide +kernel
theorem dX6_setLink_29 : decode cX6_setLink 29 = .ok (.getfield 33, 3) := by decide +kernel
theorem dX6_setLink_32 : decode cX6_setLink 32 = .ok (.iload_n 1, 1) := by decide +kernel
theorem dX6_setLink_33 : decode cX6_setLink 33 = .ok (.iload_n 2, 1) := by decide +kernel
theorem dX6_setLink_34 : decode cX6_setLink 34 = .ok (.invokevirtual 93, 3) := by decide +kernel
theorem dX6_setLink_37 : decode cX6_setLink 37 = .ok (.iload_n 3, 1) := by decide +kernel
theorem dX6_setLink_38 : decode cX6_setLink 38 = .ok (.if_icmp .ne 13, 3) := by decide +kernel
theorem dX6_setLink_41 : decode cX6_setLink 41 = .ok (.new 125, 3) := by decide +kernel
theorem dX6_setLink_44 : decode cX6_setLink 44 = .ok (.dup, 1) := by decide +kernel
theorem dX6_setLink_45 : decode cX6_setLink 45 = .ok (.ldc 247, 2) := by decide +kernel
theorem dX6_setLink_47 : decode cX6_setLink 47 = .ok (.invokespecial 129, 3) := by decide +kernel
theorem dX6_setLink_50 : decode cX6_setLink 50 = .ok (.athrow, 1) := by decide +kernel
theorem dX6_setLink_51 : decode cX6_setLink 51 = .ok (.aload_n 0, 1) := by decide +kernel
theorem dX6_setLink_52 : decode cX6_setLink 52 = .ok (.getfield 43, 3) := by decide +kernel
theorem dX6_setLink_55 : decode cX6_setLink 55 = .ok (.aload_n 0, 1) := by decide +kernel
theorem dX6_setLink_56 : decode cX6_setLink 56 = .ok (.getfield 33, 3) := by decide +kernel
theorem dX6_setLink_59 : decode cX6_setLink 59 = .ok (.invokevirtual 199, 3) := by decide +kernel
theorem dX6_setLink_62 : decode cX6_setLink 62 = .ok (.aload_n 0, 1) := by decide +kernel
theorem dX6_setLink_63 : decode cX6_setLink 63 = .ok (.getfield 33, 3) := by decide +kernel
theorem dX6_setLink_66 : decode cX6_setLink 66 = .ok (.iload_n 1, 1) := by decide +kernel
theorem dX6_setLink_67 : decode cX6_setLink 67 = .ok (.iload_n 2, 1) := by decide +kernel
theorem dX6_setLink_68 : decode cX6_setLink 68 = .ok (.invokevirtual 249, 3) := by decide +kernel
theorem dX6_setLink_71 : decode cX6_setLink 71 = .ok (.iload_n 3, 1) := by decide +kernel
theorem dX6_setLink_72 : decode cX6_setLink 72 = .ok (.ifCond .eq 7, 3) := by decide +kernel
theorem dX6_setLink_75 : decode cX6_setLink 75 = .ok (.iconst 0, 1) := by decide +kernel
theorem dX6_setLink_76 : decode cX6_setLink 76 = .ok (.goto 16, 3) := by decide +kernel
theorem dX6_setLink_79 : decode cX6_setLink 79 = .ok (.aload_n 0, 1) := by decide +kernel
theorem dX6_setLink_80 : decode cX6_setLink 80 = .ok (.getfield 33, 3) := by decide +kernel
theorem dX6_setLink_83 : decode cX6_setLink 83 = .ok (.aload_n 0, 1) := by decide +kernel
theorem dX6_setLink_84 : decode cX6_setLink 84 = .ok (.getfield 23, 3) := by decide +kernel
theorem dX6_setLink_87 : decode cX6_setLink 87 = .ok (.iload_n 1, 1) := by decide +kernel
theorem dX6_setLink_88 : decode cX6_setLink 88 = .ok (.iload_n 2, 1) := by decide +kernel
theorem dX6_setLink_89 : decode cX6_setLink 89 = .ok (.invokevirtual 252, 3) := by decide +kernel
theorem dX6_setLink_92 : decode cX6_setLink 92 = .ok (.ireturn, 1) := by decide +kernel
theorem dX6_close_0 : decode cX6_close 0 = .ok (.aload_n 0, 1) := by decide +kernel
theorem dX6_close_1 : decode cX6_close 1 = .ok (.iload_n 1, 1) := by decide +kernel
theorem dX6_close_2 : decode cX6_close 2 = .ok (.invokevirtual 147, 3) := by decide +kernel
theorem dX6_close_5 : decode cX6_close 5 = .ok (.astore_n 2, 1) := by decide +kernel
theorem dX6_close_6 : decode cX6_close 6 = .ok (.aload_n 2, 1) := by decide +kernel
theorem dX6_close_7 : decode cX6_close 7 = .ok (.getfield 162, 3) := by decide +kernel
theorem dX6_close_10 : decode cX6_close 10 = .ok (.aload_n 2, 1) := by decide +kernel
theorem dX6_close_11 : decode cX6_close 11 = .ok (.getfield 182, 3) := by decide +kernel
theorem dX6_close_14 : decode cX6_close 14 = .ok (.if_icmp .eq 13, 3) := by decide +kernel
theorem dX6_close_17 : decode cX6_close 17 = .ok (.new 125, 3) := by decide +kernel
theorem dX6_close_20 : decode cX6_close 20 = .ok (.dup, 1) := by decide +kernel
theorem dX6_close_21 : decode cX6_close 21 = .ok (.ldc 255, 2) := by decide +kernel
theorem dX6_close_23 : decode cX6_close 23 = .ok (.invokespecial 129, 3) := by decide +kernel
theorem dX6_close_26 : decode cX6_close 26 = .ok (.athrow, 1) := by decide +kernel
theorem dX6_close_27 : decode cX6_close 27 = .ok (.aload_n 0, 1) := by decide +kernel
theorem dX6_close_28 : decode cX6_close 28 = .ok (.getfield 43, 3) := by decide +kernel
theorem dX6_close_31 : decode cX6_close 31 = .ok (.aload_n 0, 1) := by decide +kernel
theorem dX6_close_32 : decode cX6_close 32 = .ok (.getfield 33, 3) := by decide +kernel
theorem dX6_close_35 : decode cX6_close 35 = .ok (.invokevirtual 199, 3) := by decide +kernel
theorem dX6_close_38 : decode cX6_close 38 = .ok (.aload_n 2, 1) := by decide +kernel
theorem dX6_close_39 : decode cX6_close 39 = .ok (.iconst 0, 1) := by decide +kernel
theorem dX6_close_40 : decode cX6_close 40 = .ok (.putfield 138, 3) := by decide +kernel
theorem dX6_close_43 : decode cX6_close 43 = .ok (.aload_n 2, 1) := by decide +kernel
theorem dX6_close_44 : decode cX6_close 44 = .ok (.getfield 182, 3) := by decide +kernel
theorem dX6_close_47 : decode cX6_close 47 = .ok (.ireturn, 1) := by decide +kernel
theorem dX6_undo_0 : decode cX6_undo 0 = .ok (.aload_n 0, 1) := by decide +kernel
theorem dX6_undo_1 : decode cX6_undo 1 = .ok (.getfield 43, 3) := by decide +kernel
theorem dX6_undo_4 : decode cX6_undo 4 = .ok (.aload_n 0, 1) := by decide +kernel
theorem dX6_undo_5 : decode cX6_undo 5 = .ok (.getfield 33, 3) := by decide +kernel
theorem dX6_undo_8 : decode cX6_undo 8 = .ok (.invokevirtual 257, 3) := by decide +kernel
theorem dX6_undo_11 : decode cX6_undo 11 = .ok (.ireturn, 1) := by decide +kernel
theorem dX6_saveSnapshot_0 : decode cX6_saveSnapshot 0 = .ok (.aload_n 0, 1) := by decide +kernel
theorem dX6_saveSnapshot_1 : decode cX6_saveSnapshot 1 = .ok (.iload_n 1, 1) := by decide +kernel
theorem dX6_saveSnapshot_2 : decode cX6_saveSnapshot 2 = .ok (.invokevirtual 261, 3) := by decide +kernel
theorem dX6_saveSnapshot_5 : decode cX6_saveSnapshot 5 = .ok (.aload_n 0, 1) := by decide +kernel
theorem dX6_saveSnapshot_6 : decode cX6_saveSnapshot 6 = .ok (.getfield 51, 3) := by decide +kernel
theorem dX6_saveSnapshot_9 : decode cX6_saveSnapshot 9 = .ok (.iload_n 1, 1) := by decide +kernel
theorem dX6_saveSnapshot_10 : decode cX6_saveSnapshot 10 = .ok (.baload, 1) := by decide +kernel
theorem dX6_saveSnapshot_11 : decode cX6_saveSnapshot 11 = .ok (.istore_n 2, 1) := by decide +kernel
theorem dX6_saveSnapshot_12 : decode cX6_saveSnapshot 12 = .ok (.aload_n 0, 1) := by decide +kernel
theorem dX6_saveSnapshot_13 : decode cX6_saveSnapshot 13 = .ok (.getfield 47, 3) := by decide +kernel
theorem dX6_saveSnapshot_16 : decode cX6_saveSnapshot 16 = .ok (.iload_n 1, 1) := by decide +kernel
theorem dX6_saveSnapshot_17 : decode cX6_saveSnapshot 17 = .ok (.aaload, 1) := by decide +kernel
theorem dX6_saveSnapshot_18 : decode cX6_saveSnapshot 18 = .ok (.aload_n 0, 1) := by decide +kernel
theorem dX6_saveSnapshot_19 : decode cX6_saveSnapshot 19 = .ok (.getfield 33, 3) := by decide +kernel
theorem dX6_saveSnapshot_22 : decode cX6_saveSnapshot 22 = .ok (.invokevirtual 264, 3) := by decide +kernel
theorem dX6_saveSnapshot_25 : decode cX6_saveSnapshot 25 = .ok (.aload_n 0, 1) := by decide +kernel
theorem dX6_saveSnapshot_26 : decode cX6_saveSnapshot 26 = .ok (.getfield 51, 3) := by decide +kernel
theorem dX6_saveSnapshot_29 : decode cX6_saveSnapshot 29 = .ok (.iload_n 1, 1) := by decide +kernel
theorem dX6_saveSnapshot_30 : decode cX6_saveSnapshot 30 = .ok (.iconst 1, 1) := by decide +kernel
theorem dX6_saveSnapshot_31 : decode cX6_saveSnapshot 31 = .ok (.bastore, 1) := by decide +kernel
theorem dX6_saveSnapshot_32 : decode cX6_saveSnapshot 32 = .ok (.iload_n 2, 1) := by decide +kernel
theorem dX6_saveSnapshot_33 : decode cX6_saveSnapshot 33 = .ok (.ireturn, 1) := by decide +kernel
theorem dX6_restoreSnapshot_0 : decode cX6_restoreSnapshot 0 = .ok (.aload_n 0, 1) := by decide +kernel
theorem dX6_restoreSnapshot_1 : decode cX6_restoreSnapshot 1 = .ok (.iload_n 1, 1) := by decide +kernel
theorem dX6_restoreSnapshot_2 : decode cX6_restoreSnapshot 2 = .ok (.invokevirtual 261, 3) := by decide +kernel
theorem dX6_restoreSnapshot_5 : decode cX6_restoreSnapshot 5 = .ok (.aload_n 0, 1) := by decide +kernel
theorem dX6_restoreSnapshot_6 : decode cX6_restoreSnapshot 6 = .ok (.getfield 51, 3) := by decide +kernel
theorem dX6_restoreSnapshot_9 : decode cX6_restoreSnapshot 9 = .ok (.iload_n 1, 1) := by decide +kernel
theorem dX6_restoreSnapshot_10 : decode cX6_restoreSnapshot 10 = .ok (.baload, 1) := by decide +kernel
theorem dX6_restoreSnapshot_11 : decode cX6_restoreSnapshot 11 = .ok (.ifCond .ne 14, 3) := by decide +kernel
theorem dX6_restoreSnapshot_14 : decode cX6_restoreSnapshot 14 = .ok (.new 125, 3) := by decide +kernel
theorem dX6_restoreSnapshot_17 : decode cX6_restoreSnapshot 17 = .ok (.dup, 1) := by decide +kernel
theorem dX6_restoreSnapshot_18 : decode cX6_restoreSnapshot 18 = .ok (.ldc_w 267, 3) := by decide +kernel
theorem dX6_restoreSnapshot_21 : decode cX6_restoreSnapshot 21 = .ok (.invokespecial 129, 3) := by decide +kernel
theorem dX6_restoreSnapshot_24 : decode cX6_restoreSnapshot 24 = .ok (.athrow, 1) := by decide +kernel
theorem dX6_restoreSnapshot_25 : decode cX6_restoreSnapshot 25 = .ok (.aload_n 0, 1) := by decide +kernel
theorem dX6_restoreSnapshot_26 : decode cX6_restoreSnapshot 26 = .ok (.getfield 33, 3) := by decide +kernel
theorem dX6_restoreSnapshot_29 : decode cX6_restoreSnapshot 29 = .ok (.aload_n 0, 1) := by decide +kernel
theorem dX6_restoreSnapshot_30 : decode cX6_restoreSnapshot 30 = .ok (.getfield 47, 3) := by decide +kernel
theorem dX6_restoreSnapshot_33 : decode cX6_restoreSnapshot 33 = .ok (.iload_n 1, 1) := by decide +kernel
theorem dX6_restoreSnapshot_34 : decode cX6_restoreSnapshot 34 = .ok (.aaload, 1) := by decide +kernel
theorem dX6_restoreSnapshot_35 : decode cX6_restoreSnapshot 35 = .ok (.invokevirtual 264, 3) := by decide +kernel
theorem dX6_restoreSnapshot_38 : decode cX6_restoreSnapshot 38 = .ok (.aload_n 0, 1) := by decide +kernel
theorem dX6_restoreSnapshot_39 : decode cX6_restoreSnapshot 39 = .ok (.getfield 43, 3) := by decide +kernel
theorem dX6_restoreSnapshot_42 : decode cX6_restoreSnapshot 42 = .ok (.invokevirtual 269, 3) := by decide +kernel
theorem dX6_restoreSnapshot_45 : decode cX6_restoreSnapshot 45 = .ok (.aload_n 0, 1) := by decide +kernel
theorem dX6_restoreSnapshot_46 : decode cX6_restoreSnapshot 46 = .ok (.getfield 33, 3) := by decide +kernel
theorem dX6_restoreSnapshot_49 : decode cX6_restoreSnapshot 49 = .ok (.getfield 82, 3) := by decide +kernel
theorem dX6_restoreSnapshot_52 : decode cX6_restoreSnapshot 52 = .ok (.ireturn, 1) := by decide +kernel
theorem dX6_putFourBytes_0 : decode cX6_putFourBytes 0 = .ok (.bipush 24, 2) := by decide +kernel
theorem dX6_putFourBytes_2 : decode cX6_putFourBytes 2 = .ok (.istore_n 2, 1) := by decide +kernel
theorem dX6_putFourBytes_3 : decode cX6_putFourBytes 3 = .ok (.iload_n 2, 1) := by decide +kernel
theorem dX6_putFourBytes_4 : decode cX6_putFourBytes 4 = .ok (.ifCond .lt 42, 3) := by decide +kernel
theorem dX6_putFourBytes_7 : decode cX6_putFourBytes 7 = .ok (.aload_n 0, 1) := by decide +kernel
theorem dX6_putFourBytes_8 : decode cX6_putFourBytes 8 = .ok (.getfield 13, 3) := by decide +kernel
theorem dX6_putFourBytes_11 : decode cX6_putFourBytes 11 = .ok (.sipush 600, 3) := by decide +kernel
theorem dX6_putFourBytes_14 : decode cX6_putFourBytes 14 = .ok (.if_icmp .ge 26, 3) := by decide +kernel
theorem dX6_putFourBytes_17 : decode cX6_putFourBytes 17 = .ok (.aload_n 0, 1) := by decide +kernel
theorem dX6_putFourBytes_18 : decode cX6_putFourBytes 18 = .ok (.getfield 9, 3) := by decide +kernel
theorem dX6_putFourBytes_21 : decode cX6_putFourBytes 21 = .ok (.aload_n 0, 1) := by decide +kernel
theorem dX6_putFourBytes_22 : decode cX6_putFourBytes 22 = .ok (.getfield 13, 3) := by decide +kernel
theorem dX6_putFourBytes_25 : decode cX6_putFourBytes 25 = .ok (.iload_n 1, 1) := by decide +kernel
theorem dX6_putFourBytes_26 : decode cX6_putFourBytes 26 = .ok (.iload_n 2, 1) := by decide +kernel
theorem dX6_putFourBytes_27 : decode cX6_putFourBytes 27 = .ok (.ishr, 1) := by decide +kernel
theorem dX6_putFourBytes_28 : decode cX6_putFourBytes 28 = .ok (.i2b, 1) := by decide +kernel
theorem dX6_putFourBytes_29 : decode cX6_putFourBytes 29 = .ok (.bastore, 1) := by decide +kernel
theorem dX6_putFourBytes_30 : decode cX6_putFourBytes 30 = .ok (.aload_n 0, 1) := by decide +kernel
theorem dX6_putFourBytes_31 : decode cX6_putFourBytes 31 = .ok (.dup, 1) := by decide +kernel
theorem dX6_putFourBytes_32 : decode cX6_putFourBytes 32 = .ok (.getfield 13, 3) := by decide +kernel
theorem dX6_putFourBytes_35 : decode cX6_putFourBytes 35 = .ok (.iconst 1, 1) := by decide +kernel
theorem dX6_putFourBytes_36 : decode cX6_putFourBytes 36 = .ok (.iadd, 1) := by decide +kernel
theorem dX6_putFourBytes_37 : decode cX6_putFourBytes 37 = .ok (.putfield 13, 3) := by decide +kernel
theorem dX6_putFourBytes_40 : decode cX6_putFourBytes 40 = .ok (.iinc 2 (-8), 3) := by decide +kernel
theorem dX6_putFourBytes_43 : decode cX6_putFourBytes 43 = .ok (.goto (-40), 3) := by decide +kernel
theorem dX6_putFourBytes_46 : decode cX6_putFourBytes 46 = .ok (.return_, 1) := by decide +kernel
theorem dX6_useDraft_0 : decode cX6_useDraft 0 = .ok (.aload_n 0, 1) := by decide +kernel
theorem dX6_useDraft_1 : decode cX6_useDraft 1 = .ok (.getfield 23, 3) := by decide +kernel
theorem dX6_useDraft_4 : decode cX6_useDraft 4 = .ok (.astore_n 1, 1) := by decide +kernel
theorem dX6_useDraft_5 : decode cX6_useDraft 5 = .ok (.aload_n 0, 1) := by decide +kernel
theorem dX6_useDraft_6 : decode cX6_useDraft 6 = .ok (.aload_n 0, 1) := by decide +kernel
theorem dX6_useDraft_7 : decode cX6_useDraft 7 = .ok (.getfield 27, 3) := by decide +kernel
theorem dX6_useDraft_10 : decode cX6_useDraft 10 = .ok (.putfield 23, 3) := by decide +kernel
theorem dX6_useDraft_13 : decode cX6_useDraft 13 = .ok (.aload_n 0, 1) := by decide +kernel
theorem dX6_useDraft_14 : decode cX6_useDraft 14 = .ok (.aload_n 1, 1) := by decide +kernel
theorem dX6_useDraft_15 : decode cX6_useDraft 15 = .ok (.putfield 27, 3) := by decide +kernel
theorem dX6_useDraft_18 : decode cX6_useDraft 18 = .ok (.aload_n 0, 1) := by decide +kernel
theorem dX6_useDraft_19 : decode cX6_useDraft 19 = .ok (.getfield 33, 3) := by decide +kernel
theorem dX6_useDraft_22 : decode cX6_useDraft 22 = .ok (.aload_n 0, 1) := by decide +kernel
theorem dX6_useDraft_23 : decode cX6_useDraft 23 = .ok (.getfield 23, 3) := by decide +kernel
theorem dX6_useDraft_26 : decode cX6_useDraft 26 = .ok (.invokevirtual 272, 3) := by decide +kernel
theorem dX6_useDraft_29 : decode cX6_useDraft 29 = .ok (.aload_n 0, 1) := by decide +kernel
theorem dX6_useDraft_30 : decode cX6_useDraft 30 = .ok (.getfield 43, 3) := by decide +kernel
theorem dX6_useDraft_33 : decode cX6_useDraft 33 = .ok (.invokevirtual 269, 3) := by decide +kernel
theorem dX6_useDraft_36 : decode cX6_useDraft 36 = .ok (.iconst 0, 1) := by decide +kernel
theorem dX6_useDraft_37 : decode cX6_useDraft 37 = .ok (.istore_n 2, 1) := by decide +kernel
theorem dX6_useDraft_38 : decode cX6_useDraft 38 = .ok (.iload_n 2, 1) := by decide +kernel
theorem dX6_useDraft_39 : decode cX6_useDraft 39 = .ok (.iconst 2, 1) := by decide +kernel
theorem dX6_useDraft_40 : decode cX6_useDraft 40 = .ok (.if_icmp .ge 16, 3) := by decide +kernel
theorem dX6_useDraft_43 : decode cX6_useDraft 43 = .ok (.aload_n 0, 1) := by decide +kernel
theorem dX6_useDraft_44 : decode cX6_useDraft 44 = .ok (.getfield 51, 3) := by decide +kernel
theorem dX6_useDraft_47 : decode cX6_useDraft 47 = .ok (.iload_n 2, 1) := by decide +kernel
theorem dX6_useDraft_48 : decode cX6_useDraft 48 = .ok (.iconst 0, 1) := by decide +kernel
theorem dX6_useDraft_49 : decode cX6_useDraft 49 = .ok (.bastore, 1) := by decide +kernel
theorem dX6_useDraft_50 : decode cX6_useDraft 50 = .ok (.iinc 2 1, 3) := by decide +kernel
theorem dX6_useDraft_53 : decode cX6_useDraft 53 = .ok (.goto (-15), 3) := by decide +kernel
theorem dX6_useDraft_56 : decode cX6_useDraft 56 = .ok (.return_, 1) := by decide +kernel
theorem dX6_checkPeer_0 : decode cX6_checkPeer 0 = .ok (.iload_n 1, 1) := by decide +kernel
theorem dX6_checkPeer_1 : decode cX6_checkPeer 1 = .ok (.ifCond .lt 14, 3) := by decide +kernel
theorem dX6_checkPeer_4 : decode cX6_checkPeer 4 = .ok (.iload_n 1, 1) := by decide +kernel
theorem dX6_checkPeer_5 : decode cX6_checkPeer 5 = .ok (.aload_n 0, 1) := by decide +kernel
theorem dX6_checkPeer_6 : decode cX6_checkPeer 6 = .ok (.getfield 23, 3) := by decide +kernel
theorem dX6_checkPeer_9 : decode cX6_checkPeer 9 = .ok (.getfield 79, 3) := by decide +kernel
theorem dX6_checkPeer_12 : decode cX6_checkPeer 12 = .ok (.if_icmp .lt 14, 3) := by decide +kernel
theorem dX6_checkPeer_15 : decode cX6_checkPeer 15 = .ok (.new 276, 3) := by decide +kernel
theorem dX6_checkPeer_18 : decode cX6_checkPeer 18 = .ok (.dup, 1) := by decide +kernel
theorem dX6_checkPeer_19 : decode cX6_checkPeer 19 = .ok (.ldc_w 278, 3) := by decide +kernel
theorem dX6_checkPeer_22 : decode cX6_checkPeer 22 = .ok (.invokespecial 280, 3) := by decide +kernel
theorem dX6_checkPeer_25 : decode cX6_checkPeer 25 = .ok (.athrow, 1) := by decide +kernel
theorem dX6_checkPeer_26 : decode cX6_checkPeer 26 = .ok (.return_, 1) := by decide +kernel
theorem dX6_checkPeers_0 : decode cX6_checkPeers 0 = .ok (.aload_n 0, 1) := by decide +kernel
theorem dX6_checkPeers_1 : decode cX6_checkPeers 1 = .ok (.iload_n 1, 1) := by decide +kernel
theorem dX6_checkPeers_2 : decode cX6_checkPeers 2 = .ok (.invokevirtual 106, 3) := by decide +kernel
theorem dX6_checkPeers_5 : decode cX6_checkPeers 5 = .ok (.aload_n 0, 1) := by decide +kernel
theorem dX6_checkPeers_6 : decode cX6_checkPeers 6 = .ok (.iload_n 2, 1) := by decide +kernel
theorem dX6_checkPeers_7 : decode cX6_checkPeers 7 = .ok (.invokevirtual 106, 3) := by decide +kernel
theorem dX6_checkPeers_10 : decode cX6_checkPeers 10 = .ok (.return_, 1) := by decide +kernel
theorem dX6_checkTwoPeers_0 : decode cX6_checkTwoPeers 0 = .ok (.aload_n 0, 1) := by decide +kernel
theorem dX6_checkTwoPeers_1 : decode cX6_checkTwoPeers 1 = .ok (.iload_n 1, 1) := by decide +kernel
theorem dX6_checkTwoPeers_2 : decode cX6_checkTwoPeers 2 = .ok (.iload_n 2, 1) := by decide +kernel
theorem dX6_checkTwoPeers_3 : decode cX6_checkTwoPeers 3 = .ok (.invokevirtual 85, 3) := by decide +kernel
theorem dX6_checkTwoPeers_6 : decode cX6_checkTwoPeers 6 = .ok (.iload_n 1, 1) := by decide +kernel
theorem dX6_checkTwoPeers_7 : decode cX6_checkTwoPeers 7 = .ok (.iload_n 2, 1) := by decide +kernel
theorem dX6_checkTwoPeers_8 : decode cX6_checkTwoPeers 8 = .ok (.if_icmp .ne 14, 3) := by decide +kernel
theorem dX6_checkTwoPeers_11 : decode cX6_checkTwoPeers 11 = .ok (.new 59, 3) := by decide +kernel
theorem dX6_checkTwoPeers_14 : decode cX6_checkTwoPeers 14 = .ok (.dup, 1) := by decide +kernel
theorem dX6_checkTwoPeers_15 : decode cX6_checkTwoPeers 15 = .ok (.ldc_w 281, 3) := by decide +kernel
theorem dX6_checkTwoPeers_18 : decode cX6_checkTwoPeers 18 = .ok (.invokespecial 63, 3) := by decide +kernel
theorem dX6_checkTwoPeers_21 : decode cX6_checkTwoPeers 21 = .ok (.athrow, 1) := by decide +kernel
theorem dX6_checkTwoPeers_22 : decode cX6_checkTwoPeers 22 = .ok (.return_, 1) := by decide +kernel
theorem dX6_checkThreePeers_0 : decode cX6_checkThreePeers 0 = .ok (.aload_n 0, 1) := by decide +kernel
theorem dX6_checkThreePeers_1 : decode cX6_checkThreePeers 1 = .ok (.iload_n 1, 1) := by decide +kernel
theorem dX6_checkThreePeers_2 : decode cX6_checkThreePeers 2 = .ok (.invokevirtual 106, 3) := by decide +kernel
theorem dX6_checkThreePeers_5 : decode cX6_checkThreePeers 5 = .ok (.aload_n 0, 1) := by decide +kernel
theorem dX6_checkThreePeers_6 : decode cX6_checkThreePeers 6 = .ok (.iload_n 2, 1) := by decide +kernel
theorem dX6_checkThreePeers_7 : decode cX6_checkThreePeers 7 = .ok (.iload_n 3, 1) := by decide +kernel
theorem dX6_checkThreePeers_8 : decode cX6_checkThreePeers 8 = .ok (.invokevirtual 85, 3) := by decide +kernel
theorem dX6_checkThreePeers_11 : decode cX6_checkThreePeers 11 = .ok (.iload_n 1, 1) := by decide +kernel
theorem dX6_checkThreePeers_12 : decode cX6_checkThreePeers 12 = .ok (.iload_n 2, 1) := by decide +kernel
theorem dX6_checkThreePeers_13 : decode cX6_checkThreePeers 13 = .ok (.if_icmp .eq 13, 3) := by decide +kernel
theorem dX6_checkThreePeers_16 : decode cX6_checkThreePeers 16 = .ok (.iload_n 1, 1) := by decide +kernel
theorem dX6_checkThreePeers_17 : decode cX6_checkThreePeers 17 = .ok (.iload_n 3, 1) := by decide +kernel
theorem dX6_checkThreePeers_18 : decode cX6_checkThreePeers 18 = .ok (.if_icmp .eq 8, 3) := by decide +kernel
theorem dX6_checkThreePeers_21 : decode cX6_checkThreePeers 21 = .ok (.iload_n 2, 1) := by decide +kernel
theorem dX6_checkThreePeers_22 : decode cX6_checkThreePeers 22 = .ok (.iload_n 3, 1) := by decide +kernel
theorem dX6_checkThreePeers_23 : decode cX6_checkThreePeers 23 = .ok (.if_icmp .ne 14, 3) := by decide +kernel
theorem dX6_checkThreePeers_26 : decode cX6_checkThreePeers 26 = .ok (.new 59, 3) := by decide +kernel
theorem dX6_checkThreePeers_29 : decode cX6_checkThreePeers 29 = .ok (.dup, 1) := by decide +kernel
theorem dX6_checkThreePeers_30 : decode cX6_checkThreePeers 30 = .ok (.ldc_w 283, 3) := by decide +kernel
theorem dX6_checkThreePeers_33 : decode cX6_checkThreePeers 33 = .ok (.invokespecial 63, 3) := by decide +kernel
theorem dX6_checkThreePeers_36 : decode cX6_checkThreePeers 36 = .ok (.athrow, 1) := by decide +kernel
theorem dX6_checkThreePeers_37 : decode cX6_checkThreePeers 37 = .ok (.return_, 1) := by decide +kernel
theorem dX6_checkSlot_0 : decode cX6_checkSlot 0 = .ok (.iload_n 1, 1) := by decide +kernel
theorem dX6_checkSlot_1 : decode cX6_checkSlot 1 = .ok (.ifCond .lt 8, 3) := by decide +kernel
theorem dX6_checkSlot_4 : decode cX6_checkSlot 4 = .ok (.iload_n 1, 1) := by decide +kernel
theorem dX6_checkSlot_5 : decode cX6_checkSlot 5 = .ok (.iconst 2, 1) := by decide +kernel
theorem dX6_checkSlot_6 : decode cX6_checkSlot 6 = .ok (.if_icmp .lt 14, 3) := by decide +kernel
theorem dX6_checkSlot_9 : decode cX6_checkSlot 9 = .ok (.new 276, 3) := by decide +kernel
theorem dX6_checkSlot_12 : decode cX6_checkSlot 12 = .ok (.dup, 1) := by decide +kernel
theorem dX6_checkSlot_13 : decode cX6_checkSlot 13 = .ok (.ldc_w 285, 3) := by decide +kernel
theorem dX6_checkSlot_16 : decode cX6_checkSlot 16 = .ok (.invokespecial 280, 3) := by decide +kernel
theorem dX6_checkSlot_19 : decode cX6_checkSlot 19 = .ok (.athrow, 1) := by decide +kernel
theorem dX6_checkSlot_20 : decode cX6_checkSlot 20 = .ok (.return_, 1) := by decide +kernel
theorem dX6_openSession_0 : decode cX6_openSession 0 = .ok (.iload_n 1, 1) := by decide +kernel
theorem dX6_openSession_1 : decode cX6_openSession 1 = .ok (.ifCond .lt 24, 3) := by decide +kernel
theorem dX6_openSession_4 : decode cX6_openSession 4 = .ok (.iload_n 1, 1) := by decide +kernel
theorem dX6_openSession_5 : decode cX6_openSession 5 = .ok (.bipush 6, 2) := by decide +kernel
theorem dX6_openSession_7 : decode cX6_openSession 7 = .ok (.if_icmp .ge 18, 3) := by decide +kernel
theorem dX6_openSession_10 : decode cX6_openSession 10 = .ok (.aload_n 0, 1) := by decide +kernel
theorem dX6_openSession_11 : decode cX6_openSession 11 = .ok (.getfield 33, 3) := by decide +kernel
theorem dX6_openSession_14 : decode cX6_openSession 14 = .ok (.getfield 134, 3) := by decide +kernel
theorem dX6_openSession_17 : decode cX6_openSession 17 = .ok (.iload_n 1, 1) := by decide +kernel
theorem dX6_openSession_18 : decode cX6_openSession 18 = .ok (.aaload, 1) := by decide +kernel
theorem dX6_openSession_19 : decode cX6_openSession 19 = .ok (.getfield 138, 3) := by decide +kernel
theorem dX6_openSession_22 : decode cX6_openSession 22 = .ok (.ifCond .ne 14, 3) := by decide +kernel
theorem dX6_openSession_25 : decode cX6_openSession 25 = .ok (.new 276, 3) := by decide +kernel
theorem dX6_openSession_28 : decode cX6_openSession 28 = .ok (.dup, 1) := by decide +kernel
theorem dX6_openSession_29 : decode cX6_openSession 29 = .ok (.ldc_w 287, 3) := by decide +kernel
theorem dX6_openSession_32 : decode cX6_openSession 32 = .ok (.invokespecial 280, 3) := by decide +kernel
theorem dX6_openSession_35 : decode cX6_openSession 35 = .ok (.athrow, 1) := by decide +kernel
theorem dX6_openSession_36 : decode cX6_openSession 36 = .ok (.aload_n 0, 1) := by decide +kernel
theorem dX6_openSession_37 : decode cX6_openSession 37 = .ok (.getfield 33, 3) := by decide +kernel
theorem dX6_openSession_40 : decode cX6_openSession 40 = .ok (.getfield 134, 3) := by decide +kernel
theorem dX6_openSession_43 : decode cX6_openSession 43 = .ok (.iload_n 1, 1) := by decide +kernel
theorem dX6_openSession_44 : decode cX6_openSession 44 = .ok (.aaload, 1) := by decide +kernel
theorem dX6_openSession_45 : decode cX6_openSession 45 = .ok (.areturn, 1) := by decide +kernel
theorem dX6_forecastOf_0 : decode cX6_forecastOf 0 = .ok (.aload_n 0, 1) := by decide +kernel
theorem dX6_forecastOf_1 : decode cX6_forecastOf 1 = .ok (.iload_n 1, 1) := by decide +kernel
theorem dX6_forecastOf_2 : decode cX6_forecastOf 2 = .ok (.invokevirtual 147, 3) := by decide +kernel
theorem dX6_forecastOf_5 : decode cX6_forecastOf 5 = .ok (.pop, 1) := by decide +kernel
theorem dX6_forecastOf_6 : decode cX6_forecastOf 6 = .ok (.aload_n 0, 1) := by decide +kernel
theorem dX6_forecastOf_7 : decode cX6_forecastOf 7 = .ok (.getfield 37, 3) := by decide +kernel
theorem dX6_forecastOf_10 : decode cX6_forecastOf 10 = .ok (.aload_n 0, 1) := by decide +kernel
theorem dX6_forecastOf_11 : decode cX6_forecastOf 11 = .ok (.getfield 33, 3) := by decide +kernel
theorem dX6_forecastOf_14 : decode cX6_forecastOf 14 = .ok (.invokevirtual 264, 3) := by decide +kernel
theorem dX6_forecastOf_17 : decode cX6_forecastOf 17 = .ok (.aload_n 0, 1) := by decide +kernel
theorem dX6_forecastOf_18 : decode cX6_forecastOf 18 = .ok (.getfield 37, 3) := by decide +kernel
theorem dX6_forecastOf_21 : decode cX6_forecastOf 21 = .ok (.getfield 134, 3) := by decide +kernel
theorem dX6_forecastOf_24 : decode cX6_forecastOf 24 = .ok (.iload_n 1, 1) := by decide +kernel
theorem dX6_forecastOf_25 : decode cX6_forecastOf 25 = .ok (.aaload, 1) := by decide +kernel
theorem dX6_forecastOf_26 : decode cX6_forecastOf 26 = .ok (.areturn, 1) := by decide +kernel
theorem dX7_init_0 : decode cX7_init 0 = .ok (.aload_n 0, 1) := by decide +kernel
theorem dX7_init_1 : decode cX7_init 1 = .ok (.invokespecial 1, 3) := by decide +kernel
theorem dX7_init_4 : decode cX7_init 4 = .ok (.aload_n 0, 1) := by decide +kernel
theorem dX7_init_5 : decode cX7_init 5 = .ok (.sipush 821, 3) := by decide +kernel
theorem dX7_init_8 : decode cX7_init 8 = .ok (.newarray .int, 2) := by decide +kernel
theorem dX7_init_10 : decode cX7_init 10 = .ok (.putfield 7, 3) := by decide +kernel
theorem dX7_init_13 : decode cX7_init 13 = .ok (.aload_n 0, 1) := by decide +kernel
theorem dX7_init_14 : decode cX7_init 14 = .ok (.bipush 8, 2) := by decide +kernel
theorem dX7_init_16 : decode cX7_init 16 = .ok (.newarray .int, 2) := by decide +kernel
theorem dX7_init_18 : decode cX7_init 18 = .ok (.putfield 13, 3) := by decide +kernel
theorem dX7_init_21 : decode cX7_init 21 = .ok (.aload_n 0, 1) := by decide +kernel
theorem dX7_init_22 : decode cX7_init 22 = .ok (.bipush 16, 2) := by decide +kernel
theorem dX7_init_24 : decode cX7_init 24 = .ok (.newarray .int, 2) := by decide +kernel
theorem dX7_init_26 : decode cX7_init 26 = .ok (.putfield 16, 3) := by decide +kernel
theorem dX7_init_29 : decode cX7_init 29 = .ok (.aload_n 0, 1) := by decide +kernel
theorem dX7_init_30 : decode cX7_init 30 = .ok (.bipush 16, 2) := by decide +kernel
theorem dX7_init_32 : decode cX7_init 32 = .ok (.newarray .int, 2) := by decide +kernel
theorem dX7_init_34 : decode cX7_init 34 = .ok (.putfield 19, 3) := by decide +kernel
theorem dX7_init_37 : decode cX7_init 37 = .ok (.aload_n 0, 1) := by decide +kernel
theorem dX7_init_38 : decode cX7_init 38 = .ok (.sipush 128, 3) := by decide +kernel
theorem dX7_init_41 : decode cX7_init 41 = .ok (.newarray .int, 2) := by decide +kernel
theorem dX7_init_43 : decode cX7_init 43 = .ok (.putfield 22, 3) := by decide +kernel
theorem dX7_init_46 : decode cX7_init 46 = .ok (.aload_n 0, 1) := by decide +kernel
theorem dX7_init_47 : decode cX7_init 47 = .ok (.bipush 16, 2) := by decide +kernel
theorem dX7_init_49 : decode cX7_init 49 = .ok (.newarray .int, 2) := by decide +kernel
theorem dX7_init_51 : decode cX7_init 51 = .ok (.putfield 25, 3) := by decide +kernel
theorem dX7_init_54 : decode cX7_init 54 = .ok (.aload_n 0, 1) := by decide +kernel
theorem dX7_init_55 : decode cX7_init 55 = .ok (.iconst 2, 1) := by decide +kernel
theorem dX7_init_56 : decode cX7_init 56 = .ok (.newarray .int, 2) := by decide +kernel
theorem dX7_init_58 : decode cX7_init 58 = .ok (.putfield 28, 3) := by decide +kernel
theorem dX7_init_61 : decode cX7_init 61 = .ok (.aload_n 0, 1) := by decide +kernel
theorem dX7_init_62 : decode cX7_init 62 = .ok (.sipush 1240, 3) := by decide +kernel
theorem dX7_init_65 : decode cX7_init 65 = .ok (.newarray .int, 2) := by decide +kernel
theorem dX7_init_67 : decode cX7_init 67 = .ok (.putfield 31, 3) := by decide +kernel
theorem dX7_init_70 : decode cX7_init 70 = .ok (.aload_n 0, 1) := by decide +kernel
theorem dX7_init_71 : decode cX7_init 71 = .ok (.sipush 600, 3) := by decide +kernel
theorem dX7_init_74 : decode cX7_init 74 = .ok (.newarray .byte, 2) := by decide +kernel
theorem dX7_init_76 : decode cX7_init 76 = .ok (.putfield 34, 3) := by decide +kernel
theorem dX7_init_79 : decode cX7_init 79 = .ok (.aload_n 0, 1) := by decide +kernel
theorem dX7_init_80 : decode cX7_init 80 = .ok (.iconst (-1), 1) := by decide +kernel
theorem dX7_init_81 : decode cX7_init 81 = .ok (.putfield 38, 3) := by decide +kernel
theorem dX7_init_84 : decode cX7_init 84 = .ok (.aload_n 0, 1) := by decide +kernel
theorem dX7_init_85 : decode cX7_init 85 = .ok (.bipush 40, 2) := by decide +kernel
theorem dX7_init_87 : decode cX7_init 87 = .ok (.newarray .int, 2) := by decide +kernel
theorem dX7_init_89 : decode cX7_init 89 = .ok (.putfield 42, 3) := by decide +kernel
theorem dX7_init_92 : decode cX7_init 92 = .ok (.aload_n 0, 1) := by decide +kernel
theorem dX7_init_93 : decode cX7_init 93 = .ok (.bipush 6, 2) := by decide +kernel
theorem dX7_init_95 : decode cX7_init 95 = .ok (.newarray .int, 2) := by decide +kernel
theorem dX7_init_97 : decode cX7_init 97 = .ok (.putfield 45, 3) := by decide +kernel
theorem dX7_init_100 : decode cX7_init 100 = .ok (.aload_n 0, 1) := by decide +kernel
theorem dX7_init_101 : decode cX7_init 101 = .ok (.sipush 821, 3) := by decide +kernel
theorem dX7_init_104 : decode cX7_init 104 = .ok (.newarray .int, 2) := by decide +kernel
theorem dX7_init_106 : decode cX7_init 106 = .ok (.putfield 48, 3) := by decide +kernel
theorem dX7_init_109 : decode cX7_init 109 = .ok (.aload_n 0, 1) := by decide +kernel
theorem dX7_init_110 : decode cX7_init 110 = .ok (.sipush 8210, 3) := by decide +kernel
theorem dX7_init_113 : decode cX7_init 113 = .ok (.newarray .int, 2) := by decide +kernel
theorem dX7_init_115 : decode cX7_init 115 = .ok (.putfield 51, 3) := by decide +kernel
theorem dX7_init_118 : decode cX7_init 118 = .ok (.aload_n 0, 1) := by decide +kernel
theorem dX7_init_119 : decode cX7_init 119 = .ok (.sipush 1642, 3) := by decide +kernel
theorem dX7_init_122 : decode cX7_init 122 = .ok (.newarray .int, 2) := by decide +kernel
theorem dX7_init_124 : decode cX7_init 124 = .ok (.putfield 54, 3) := by decide +kernel
theorem dX7_init_127 : decode cX7_init 127 = .ok (.aload_n 0, 1) := by decide +kernel
theorem dX7_init_128 : decode cX7_init 128 = .ok (.iconst 2, 1) := by decide +kernel
theorem dX7_init_129 : decode cX7_init 129 = .ok (.newarray .boolean, 2) := by decide +kernel
theorem dX7_init_131 : decode cX7_init 131 = .ok (.putfield 57, 3) := by decide +kernel
theorem dX7_init_134 : decode cX7_init 134 = .ok (.aload_n 0, 1) := by decide +kernel
theorem dX7_init_135 : decode cX7_init 135 = .ok (.invokevirtual 61, 3) := by decide +kernel
theorem dX7_init_138 : decode cX7_init 138 = .ok (.aload_n 0, 1) := by decide +kernel
theorem dX7_init_139 : decode cX7_init 139 = .ok (.invokevirtual 64, 3) := by decide +kernel
theorem dX7_init_142 : decode cX7_init 142 = .ok (.aload_n 0, 1) := by decide +kernel
theorem dX7_init_143 : decode cX7_init 143 = .ok (.invokevirtual 67, 3) := by decide +kernel
theorem dX7_init_146 : decode cX7_init 146 = .ok (.return_, 1) := by decide +kernel
theorem dX7_thrown_0 : decode cX7_thrown 0 = .ok (.aload_n 0, 1) := by decide +kernel
theorem dX7_thrown_1 : decode cX7_thrown 1 = .ok (.getfield 70, 3) := by decide +kernel
theorem dX7_thrown_4 : decode cX7_thrown 4 = .ok (.ireturn, 1) := by decide +kernel
theorem dX7_within_0 : decode cX7_within 0 = .ok (.iload_n 0, 1) := by decide +kernel
theorem dX7_within_1 : decode cX7_within 1 = .ok (.iload_n 1, 1) := by decide +kernel
theorem dX7_within_2 : decode cX7_within 2 = .ok (.if_icmp .lt 12, 3) := by decide +kernel
theorem dX7_within_5 : decode cX7_within 5 = .ok (.iload_n 0, 1) := by decide +kernel
theorem dX7_within_6 : decode cX7_within 6 = .ok (.iload_n 2, 1) := by decide +kernel
theorem dX7_within_7 : decode cX7_within 7 = .ok (.if_icmp .gt 7, 3) := by decide +kernel
theorem dX7_within_10 : decode cX7_within 10 = .ok (.iconst 1, 1) := by decide +kernel
theorem dX7_within_11 : decode cX7_within 11 = .ok (.goto 4, 3) := by decide +kernel
theorem dX7_within_14 : decode cX7_within 14 = .ok (.iconst 0, 1) := by decide +kernel
theorem dX7_within_15 : decode cX7_within 15 = .ok (.ireturn, 1) := by decide +kernel
theorem dX7_has_0 : decode cX7_has 0 = .ok (.iload_n 0, 1) := by decide +kernel
theorem dX7_has_1 : decode cX7_has 1 = .ok (.iload_n 1, 1) := by decide +kernel
theorem dX7_has_2 : decode cX7_has 2 = .ok (.ishr, 1) := by decide +kernel
theorem dX7_has_3 : decode cX7_has 3 = .ok (.iconst 1, 1) := by decide +kernel
theorem dX7_has_4 : decode cX7_has 4 = .ok (.iand, 1) := by decide +kernel
theorem dX7_has_5 : decode cX7_has 5 = .ok (.iconst 1, 1) := by decide +kernel
theorem dX7_has_6 : decode cX7_has 6 = .ok (.if_icmp .ne 7, 3) := by decide +kernel
theorem dX7_has_9 : decode cX7_has 9 = .ok (.iconst 1, 1) := by decide +kernel
theorem dX7_has_10 : decode cX7_has 10 = .ok (.goto 4, 3) := by decide +kernel
theorem dX7_has_13 : decode cX7_has 13 = .ok (.iconst 0, 1) := by decide +kernel
theorem dX7_has_14 : decode cX7_has 14 = .ok (.ireturn, 1) := by decide +kernel
theorem dX7_bits_0 : decode cX7_bits 0 = .ok (.iconst 0, 1) := by decide +kernel
theorem dX7_bits_1 : decode cX7_bits 1 = .ok (.istore_n 1, 1) := by decide +kernel
theorem dX7_bits_2 : decode cX7_bits 2 = .ok (.iload_n 0, 1) := by decide +kernel
theorem dX7_bits_3 : decode cX7_bits 3 = .ok (.istore_n 2, 1) := by decide +kernel
theorem dX7_bits_4 : decode cX7_bits 4 = .ok (.iload_n 2, 1) := by decide +kernel
theorem dX7_bits_5 : decode cX7_bits 5 = .ok (.ifCond .eq 15, 3) := by decide +kernel
theorem dX7_bits_8 : decode cX7_bits 8 = .ok (.iinc 1 1, 3) := by decide +kernel
theorem dX7_bits_11 : decode cX7_bits 11 = .ok (.iload_n 2, 1) := by decide +kernel
theorem dX7_bits_12 : decode cX7_bits 12 = .ok (.iload_n 2, 1) := by decide +kernel
theorem dX7_bits_13 : decode cX7_bits 13 = .ok (.iconst 1, 1) := by decide +kernel
theorem dX7_bits_14 : decode cX7_bits 14 = .ok (.isub, 1) := by decide +kernel
theorem dX7_bits_15 : decode cX7_bits 15 = .ok (.iand, 1) := by decide +kernel
theorem dX7_bits_16 : decode cX7_bits 16 = .ok (.istore_n 2, 1) := by decide +kernel
theorem dX7_bits_17 : decode cX7_bits 17 = .ok (.goto (-13), 3) := by decide +kernel
theorem dX7_bits_20 : decode cX7_bits 20 = .ok (.iload_n 1, 1) := by decide +kernel
theorem dX7_bits_21 : decode cX7_bits 21 = .ok (.ireturn, 1) := by decide +kernel
theorem dX7_throwsIf_0 : decode cX7_throwsIf 0 = .ok (.aload_n 0, 1) := by decide +kernel
theorem dX7_throwsIf_1 : decode cX7_throwsIf 1 = .ok (.getfield 70, 3) := by decide +kernel
theorem dX7_throwsIf_4 : decode cX7_throwsIf 4 = .ok (.ifCond .ne 12, 3) := by decide +kernel
theorem dX7_throwsIf_7 : decode cX7_throwsIf 7 = .ok (.iload_n 1, 1) := by decide +kernel
theorem dX7_throwsIf_8 : decode cX7_throwsIf 8 = .ok (.ifCond .eq 8, 3) := by decide +kernel
theorem dX7_throwsIf_11 : decode cX7_throwsIf 11 = .ok (.aload_n 0, 1) := by decide +kernel
theorem dX7_throwsIf_12 : decode cX7_throwsIf 12 = .ok (.iload_n 2, 1) := by decide +kernel
theorem dX7_throwsIf_13 : decode cX7_throwsIf 13 = .ok (.putfield 70, 3) := by decide +kernel
theorem dX7_throwsIf_16 : decode cX7_throwsIf 16 = .ok (.aload_n 0, 1) := by decide +kernel
theorem dX7_throwsIf_17 : decode cX7_throwsIf 17 = .ok (.getfield 70, 3) := by decide +kernel
theorem dX7_throwsIf_20 : decode cX7_throwsIf 20 = .ok (.ifCond .le 7, 3) := by decide +kernel
theorem dX7_throwsIf_23 : decode cX7_throwsIf 23 = .ok (.iconst 1, 1) := by decide +kernel
theorem dX7_throwsIf_24 : decode cX7_throwsIf 24 = .ok (.goto 4, 3) := by decide +kernel
theorem dX7_throwsIf_27 : decode cX7_throwsIf 27 = .ok (.iconst 0, 1) := by decide +kernel
theorem dX7_throwsIf_28 : decode cX7_throwsIf 28 = .ok (.ireturn, 1) := by decide +kernel
theorem dX7_lifts_0 : decode cX7_lifts 0 = .ok (.iconst 0, 1) := by decide +kernel
theorem dX7_lifts_1 : decode cX7_lifts 1 = .ok (.istore_n 1, 1) := by decide +kernel
theorem dX7_lifts_2 : decode cX7_lifts 2 = .ok (.iload_n 1, 1) := by decide +kernel
theorem dX7_lifts_3 : decode cX7_lifts 3 = .ok (.aload_n 0, 1) := by decide +kernel
theorem dX7_lifts_4 : decode cX7_lifts 4 = .ok (.arraylength, 1) := by decide +kernel
theorem dX7_lifts_5 : decode cX7_lifts 5 = .ok (.iconst 2, 1) := by decide +kernel
theorem dX7_lifts_6 : decode cX7_lifts 6 = .ok (.idiv, 1) := by decide +kernel
theorem dX7_lifts_7 : decode cX7_lifts 7 = .ok (.if_icmp .ge 20, 3) := by decide +kernel
theorem dX7_lifts_10 : decode cX7_lifts 10 = .ok (.aload_n 0, 1) := by decide +kernel
theorem dX7_lifts_11 : decode cX7_lifts 11 = .ok (.iload_n 1, 1) := by decide +kernel
theorem dX7_lifts_12 : decode cX7_lifts 12 = .ok (.aload_n 0, 1) := by decide +kernel
theorem dX7_lifts_13 : decode cX7_lifts 13 = .ok (.aload_n 0, 1) := by decide +kernel
theorem dX7_lifts_14 : decode cX7_lifts 14 = .ok (.arraylength, 1) := by decide +kernel
theorem dX7_lifts_15 : decode cX7_lifts 15 = .ok (.iconst 2, 1) := by decide +kernel
theorem dX7_lifts_16 : decode cX7_lifts 16 = .ok (.idiv, 1) := by decide +kernel
theorem dX7_lifts_17 : decode cX7_lifts 17 = .ok (.iload_n 1, 1) := by decide +kernel
theorem dX7_lifts_18 : decode cX7_lifts 18 = .ok (.iadd, 1) := by decide +kernel
theorem dX7_lifts_19 : decode cX7_lifts 19 = .ok (.iaload, 1) := by decide +kernel
theorem dX7_lifts_20 : decode cX7_lifts 20 = .ok (.iastore, 1) := by decide +kernel
theorem dX7_lifts_21 : decode cX7_lifts 21 = .ok (.iinc 1 1, 3) := by decide +kernel
theorem dX7_lifts_24 : decode cX7_lifts 24 = .ok (.goto (-22), 3) := by decide +kernel
theorem dX7_lifts_27 : decode cX7_lifts 27 = .ok (.return_, 1) := by decide +kernel
theorem dX7_liftsAll_0 : decode cX7_liftsAll 0 = .ok (.aload_n 0, 1) := by decide +kernel
theorem dX7_liftsAll_1 : decode cX7_liftsAll 1 = .ok (.getfield 13, 3) := by decide +kernel
theorem dX7_liftsAll_4 : decode cX7_liftsAll 4 = .ok (.invokestatic 73, 3) := by decide +kernel
theorem dX7_liftsAll_7 : decode cX7_liftsAll 7 = .ok (.aload_n 0, 1) := by decide +kernel
theorem dX7_liftsAll_8 : decode cX7_liftsAll 8 = .ok (.getfield 16, 3) := by decide +kernel
theorem dX7_liftsAll_11 : decode cX7_liftsAll 11 = .ok (.invokestatic 73, 3) := by decide +kernel
theorem dX7_liftsAll_14 : decode cX7_liftsAll 14 = .ok (.aload_n 0, 1) := by decide +kernel
theorem dX7_liftsAll_15 : decode cX7_liftsAll 15 = .ok (.getfield 19, 3) := by decide +kernel
theorem dX7_liftsAll_18 : decode cX7_liftsAll 18 = .ok (.invokestatic 73, 3) := by decide +kernel
theorem dX7_liftsAll_21 : decode cX7_liftsAll 21 = .ok (.aload_n 0, 1) := by decide +kernel
theorem dX7_liftsAll_22 : decode cX7_liftsAll 22 = .ok (.getfield 22, 3) := by decide +kernel
theorem dX7_liftsAll_25 : decode cX7_liftsAll 25 = .ok (.invokestatic 73, 3) := by decide +kernel
theorem dX7_liftsAll_28 : decode cX7_liftsAll 28 = .ok (.aload_n 0, 1) := by decide +kernel
theorem dX7_liftsAll_29 : decode cX7_liftsAll 29 = .ok (.getfield 25, 3) := by decide +kernel
theorem dX7_liftsAll_32 : decode cX7_liftsAll 32 = .ok (.invokestatic 73, 3) := by decide +kernel
theorem dX7_liftsAll_35 : decode cX7_liftsAll 35 = .ok (.aload_n 0, 1) := by decide +kernel
theorem dX7_liftsAll_36 : decode cX7_liftsAll 36 = .ok (.getfield 28, 3) := by decide +kernel
theorem dX7_liftsAll_39 : decode cX7_liftsAll 39 = .ok (.invokestatic 73, 3) := by decide +kernel
theorem dX7_liftsAll_42 : decode cX7_liftsAll 42 = .ok (.aload_n 0, 1) := by decide +kernel
theorem dX7_liftsAll_43 : decode cX7_liftsAll 43 = .ok (.getfield 31, 3) := by decide +kernel
theorem dX7_liftsAll_46 : decode cX7_liftsAll 46 = .ok (.invokestatic 73, 3) := by decide +kernel
theorem dX7_liftsAll_49 : decode cX7_liftsAll 49 = .ok (.return_, 1) := by decide +kernel
theorem dX7_clearDraft_0 : decode cX7_clearDraft 0 = .ok (.aload_n 0, 1) := by decide +kernel
theorem dX7_clearDraft_1 : decode cX7_clearDraft 1 = .ok (.getfield 13, 3) := by decide +kernel
theorem dX7_clearDraft_4 : decode cX7_clearDraft 4 = .ok (.iconst 4, 1) := by decide +kernel
theorem dX7_clearDraft_5 : decode cX7_clearDraft 5 = .ok (.iconst 0, 1) := by decide +kernel
theorem dX7_clearDraft_6 : decode cX7_clearDraft 6 = .ok (.iastore, 1) := by decide +kernel
theorem dX7_clearDraft_7 : decode cX7_clearDraft 7 = .ok (.aload_n 0, 1) := by decide +kernel
theorem dX7_clearDraft_8 : decode cX7_clearDraft 8 = .ok (.getfield 13, 3) := by decide +kernel
theorem dX7_clearDraft_11 : decode cX7_clearDraft 11 = .ok (.iconst 5, 1) := by decide +kernel
theorem dX7_clearDraft_12 : decode cX7_clearDraft 12 = .ok (.iconst 3, 1) := by decide +kernel
theorem dX7_clearDraft_13 : decode cX7_clearDraft 13 = .ok (.iastore, 1) := by decide +kernel
theorem dX7_clearDraft_14 : decode cX7_clearDraft 14 = .ok (.aload_n 0, 1) := by decide +kernel
theorem dX7_clearDraft_15 : decode cX7_clearDraft 15 = .ok (.getfield 13, 3) := by decide +kernel
theorem dX7_clearDraft_18 : decode cX7_clearDraft 18 = .ok (.bipush 6, 2) := by decide +kernel
theorem dX7_clearDraft_20 : decode cX7_clearDraft 20 = .ok (.iconst 2, 1) := by decide +kernel
theorem dX7_clearDraft_21 : decode cX7_clearDraft 21 = .ok (.iastore, 1) := by decide +kernel
theorem dX7_clearDraft_22 : decode cX7_clearDraft 22 = .ok (.aload_n 0, 1) := by decide +kernel
theorem dX7_clearDraft_23 : decode cX7_clearDraft 23 = .ok (.getfield 13, 3) := by decide +kernel
theorem dX7_clearDraft_26 : decode cX7_clearDraft 26 = .ok (.bipush 7, 2) := by decide +kernel
theorem dX7_clearDraft_28 : decode cX7_clearDraft 28 = .ok (.bipush 10, 2) := by decide +kernel
theorem dX7_clearDraft_30 : decode cX7_clearDraft 30 = .ok (.iastore, 1) := by decide +kernel
theorem dX7_clearDraft_31 : decode cX7_clearDraft 31 = .ok (.iconst 0, 1) := by decide +kernel
theorem dX7_clearDraft_32 : decode cX7_clearDraft 32 = .ok (.istore_n 1, 1) := by decide +kernel
theorem dX7_clearDraft_33 : decode cX7_clearDraft 33 = .ok (.iload_n 1, 1) := by decide +kernel
theorem dX7_clearDraft_34 : decode cX7_clearDraft 34 = .ok (.bipush 64, 2) := by decide +kernel
theorem dX7_clearDraft_36 : decode cX7_clearDraft 36 = .ok (.if_icmp .ge 19, 3) := by decide +kernel
theorem dX7_clearDraft_39 : decode cX7_clearDraft 39 = .ok (.aload_n 0, 1) := by decide +kernel
theorem dX7_clearDraft_40 : decode cX7_clearDraft 40 = .ok (.getfield 22, 3) := by decide +kernel
theorem dX7_clearDraft_43 : decode cX7_clearDraft 43 = .ok (.bipush 64, 2) := by decide +kernel
theorem dX7_clearDraft_45 : decode cX7_clearDraft 45 = .ok (.iload_n 1, 1) := by decide +kernel
theorem dX7_clearDraft_46 : decode cX7_clearDraft 46 = .ok (.iadd, 1) := by decide +kernel
theorem dX7_clearDraft_47 : decode cX7_clearDraft 47 = .ok (.iconst 0, 1) := by decide +kernel
theorem dX7_clearDraft_48 : decode cX7_clearDraft 48 = .ok (.iastore, 1) := by decide +kernel
theorem dX7_clearDraft_49 : decode cX7_clearDraft 49 = .ok (.iinc 1 1, 3) := by decide +kernel
theorem dX7_clearDraft_52 : decode cX7_clearDraft 52 = .ok (.goto (-19), 3) := by decide +kernel
theorem dX7_clearDraft_55 : decode cX7_clearDraft 55 = .ok (.iconst 0, 1) := by decide +kernel
theorem dX7_clearDraft_56 : decode cX7_clearDraft 56 = .ok (.istore_n 1, 1) := by decide +kernel
theorem dX7_clearDraft_57 : decode cX7_clearDraft 57 = .ok (.iload_n 1, 1) := by decide +kernel
theorem dX7_clearDraft_58 : decode cX7_clearDraft 58 = .ok (.bipush 8, 2) := by decide +kernel
theorem dX7_clearDraft_60 : decode cX7_clearDraft 60 = .ok (.if_icmp .ge 19, 3) := by decide +kernel
theorem dX7_clearDraft_63 : decode cX7_clearDraft 63 = .ok (.aload_n 0, 1) := by decide +kernel
theorem dX7_clearDraft_64 : decode cX7_clearDraft 64 = .ok (.getfield 25, 3) := by decide +kernel
theorem dX7_clearDraft_67 : decode cX7_clearDraft 67 = .ok (.bipush 8, 2) := by decide +kernel
theorem dX7_clearDraft_69 : decode cX7_clearDraft 69 = .ok (.iload_n 1, 1) := by decide +kernel
theorem dX7_clearDraft_70 : decode cX7_clearDraft 70 = .ok (.iadd, 1) := by decide +kernel
theorem dX7_clearDraft_71 : decode cX7_clearDraft 71 = .ok (.iconst 0, 1) := by decide +kernel
theorem dX7_clearDraft_72 : decode cX7_clearDraft 72 = .ok (.iastore, 1) := by decide +kernel
theorem dX7_clearDraft_73 : decode cX7_clearDraft 73 = .ok (.iinc 1 1, 3) := by decide +kernel
theorem dX7_clearDraft_76 : decode cX7_clearDraft 76 = .ok (.goto (-19), 3) := by decide +kernel
theorem dX7_clearDraft_79 : decode cX7_clearDraft 79 = .ok (.aload_n 0, 1) := by decide +kernel
theorem dX7_clearDraft_80 : decode cX7_clearDraft 80 = .ok (.getfield 28, 3) := by decide +kernel
theorem dX7_clearDraft_83 : decode cX7_clearDraft 83 = .ok (.iconst 1, 1) := by decide +kernel
theorem dX7_clearDraft_84 : decode cX7_clearDraft 84 = .ok (.iconst 0, 1) := by decide +kernel
theorem dX7_clearDraft_85 : decode cX7_clearDraft 85 = .ok (.iastore, 1) := by decide +kernel
theorem dX7_clearDraft_86 : decode cX7_clearDraft 86 = .ok (.aload_n 0, 1) := by decide +kernel
end
section
theorem dX7_clearDraft_87 : decode cX7_clearDraft 87 = .ok (.iconst 1, 1) := by decide +kernel
theorem dX7_clearDraft_88 : decode cX7_clearDraft 88 = .ok (.invokevirtual 77, 3) := by decide +kernel
theorem dX7_clearDraft_91 : decode cX7_clearDraft 91 = .ok (.pop, 1) := by decide +kernel
theorem dX7_clearDraft_92 : decode cX7_clearDraft 92 = .ok (.aload_n 0, 1) := by decide +kernel
theorem dX7_clearDraft_93 : decode cX7_clearDraft 93 = .ok (.iconst 2, 1) := by decide +kernel
theorem dX7_clearDraft_94 : decode cX7_clearDraft 94 = .ok (.invokevirtual 77, 3) := by decide +kernel
theorem dX7_clearDraft_97 : decode cX7_clearDraft 97 = .ok (.pop, 1) := by decide +kernel
theorem dX7_clearDraft_98 : decode cX7_clearDraft 98 = .ok (.aload_n 0, 1) := by decide +kernel
theorem dX7_clearDraft_99 : decode cX7_clearDraft 99 = .ok (.iconst (-1), 1) := by decide +kernel
theorem dX7_clearDraft_100 : decode cX7_clearDraft 100 = .ok (.invokevirtual 77, 3) := by decide +kernel
theorem dX7_clearDraft_103 : decode cX7_clearDraft 103 = .ok (.pop, 1) := by decide +kernel
theorem dX7_clearDraft_104 : decode cX7_clearDraft 104 = .ok (.aload_n 0, 1) := by decide +kernel
theorem dX7_clearDraft_105 : decode cX7_clearDraft 105 = .ok (.iconst 3, 1) := by decide +kernel
theorem dX7_clearDraft_106 : decode cX7_clearDraft 106 = .ok (.invokevirtual 77, 3) := by decide +kernel
theorem dX7_clearDraft_109 : decode cX7_clearDraft 109 = .ok (.pop, 1) := by decide +kernel
theorem dX7_clearDraft_110 : decode cX7_clearDraft 110 = .ok (.aload_n 0, 1) := by decide +kernel
theorem dX7_clearDraft_111 : decode cX7_clearDraft 111 = .ok (.bipush 110, 2) := by decide +kernel
theorem dX7_clearDraft_113 : decode cX7_clearDraft 113 = .ok (.invokevirtual 77, 3) := by decide +kernel
theorem dX7_clearDraft_116 : decode cX7_clearDraft 116 = .ok (.pop, 1) := by decide +kernel
theorem dX7_clearDraft_117 : decode cX7_clearDraft 117 = .ok (.aload_n 0, 1) := by decide +kernel
theorem dX7_clearDraft_118 : decode cX7_clearDraft 118 = .ok (.bipush (-3), 2) := by decide +kernel
theorem dX7_clearDraft_120 : decode cX7_clearDraft 120 = .ok (.invokevirtual 77, 3) := by decide +kernel
theorem dX7_clearDraft_123 : decode cX7_clearDraft 123 = .ok (.pop, 1) := by decide +kernel
theorem dX7_clearDraft_124 : decode cX7_clearDraft 124 = .ok (.aload_n 0, 1) := by decide +kernel
theorem dX7_clearDraft_125 : decode cX7_clearDraft 125 = .ok (.iconst (-1), 1) := by decide +kernel
theorem dX7_clearDraft_126 : decode cX7_clearDraft 126 = .ok (.invokevirtual 77, 3) := by decide +kernel
theorem dX7_clearDraft_129 : decode cX7_clearDraft 129 = .ok (.pop, 1) := by decide +kernel
theorem dX7_clearDraft_130 : decode cX7_clearDraft 130 = .ok (.return_, 1) := by decide +kernel
theorem dX7_append_0 : decode cX7_append 0 = .ok (.aload_n 0, 1) := by decide +kernel
theorem dX7_append_1 : decode cX7_append 1 = .ok (.iconst 0, 1) := by decide +kernel
theorem dX7_append_2 : decode cX7_append 2 = .ok (.putfield 70, 3) := by decide +kernel
theorem dX7_append_5 : decode cX7_append 5 = .ok (.aload_n 0, 1) := by decide +kernel
theorem dX7_append_6 : decode cX7_append 6 = .ok (.getfield 81, 3) := by decide +kernel
theorem dX7_append_9 : decode cX7_append 9 = .ok (.bipush 20, 2) := by decide +kernel
theorem dX7_append_11 : decode cX7_append 11 = .ok (.iadd, 1) := by decide +kernel
theorem dX7_append_12 : decode cX7_append 12 = .ok (.sipush 600, 3) := by decide +kernel
theorem dX7_append_15 : decode cX7_append 15 = .ok (.if_icmp .le 5, 3) := by decide +kernel
theorem dX7_append_18 : decode cX7_append 18 = .ok (.iconst (-1), 1) := by decide +kernel
theorem dX7_append_19 : decode cX7_append 19 = .ok (.ireturn, 1) := by decide +kernel
theorem dX7_append_20 : decode cX7_append 20 = .ok (.aload_n 0, 1) := by decide +kernel
theorem dX7_append_21 : decode cX7_append 21 = .ok (.iload_n 1, 1) := by decide +kernel
theorem dX7_append_22 : decode cX7_append 22 = .ok (.invokevirtual 84, 3) := by decide +kernel
theorem dX7_append_25 : decode cX7_append 25 = .ok (.aload_n 0, 1) := by decide +kernel
theorem dX7_append_26 : decode cX7_append 26 = .ok (.iload_n 2, 1) := by decide +kernel
theorem dX7_append_27 : decode cX7_append 27 = .ok (.invokevirtual 84, 3) := by decide +kernel
theorem dX7_append_30 : decode cX7_append 30 = .ok (.aload_n 0, 1) := by decide +kernel
theorem dX7_append_31 : decode cX7_append 31 = .ok (.iload_n 3, 1) := by decide +kernel
theorem dX7_append_32 : decode cX7_append 32 = .ok (.invokevirtual 84, 3) := by decide +kernel
theorem dX7_append_35 : decode cX7_append 35 = .ok (.aload_n 0, 1) := by decide +kernel
theorem dX7_append_36 : decode cX7_append 36 = .ok (.iload 4, 2) := by decide +kernel
theorem dX7_append_38 : decode cX7_append 38 = .ok (.invokevirtual 84, 3) := by decide +kernel
theorem dX7_append_41 : decode cX7_append 41 = .ok (.aload_n 0, 1) := by decide +kernel
theorem dX7_append_42 : decode cX7_append 42 = .ok (.iload 5, 2) := by decide +kernel
theorem dX7_append_44 : decode cX7_append 44 = .ok (.invokevirtual 84, 3) := by decide +kernel
theorem dX7_append_47 : decode cX7_append 47 = .ok (.aload_n 0, 1) := by decide +kernel
theorem dX7_append_48 : decode cX7_append 48 = .ok (.getfield 81, 3) := by decide +kernel
theorem dX7_append_51 : decode cX7_append 51 = .ok (.ireturn, 1) := by decide +kernel
theorem dX7_bytesOf_0 : decode cX7_bytesOf 0 = .ok (.bipush 24, 2) := by decide +kernel
theorem dX7_bytesOf_2 : decode cX7_bytesOf 2 = .ok (.istore_n 2, 1) := by decide +kernel
theorem dX7_bytesOf_3 : decode cX7_bytesOf 3 = .ok (.iload_n 2, 1) := by decide +kernel
theorem dX7_bytesOf_4 : decode cX7_bytesOf 4 = .ok (.ifCond .lt 32, 3) := by decide +kernel
theorem dX7_bytesOf_7 : decode cX7_bytesOf 7 = .ok (.aload_n 0, 1) := by decide +kernel
theorem dX7_bytesOf_8 : decode cX7_bytesOf 8 = .ok (.getfield 34, 3) := by decide +kernel
theorem dX7_bytesOf_11 : decode cX7_bytesOf 11 = .ok (.aload_n 0, 1) := by decide +kernel
theorem dX7_bytesOf_12 : decode cX7_bytesOf 12 = .ok (.getfield 81, 3) := by decide +kernel
theorem dX7_bytesOf_15 : decode cX7_bytesOf 15 = .ok (.iload_n 1, 1) := by decide +kernel
theorem dX7_bytesOf_16 : decode cX7_bytesOf 16 = .ok (.iload_n 2, 1) := by decide +kernel
theorem dX7_bytesOf_17 : decode cX7_bytesOf 17 = .ok (.ishr, 1) := by decide +kernel
theorem dX7_bytesOf_18 : decode cX7_bytesOf 18 = .ok (.i2b, 1) := by decide +kernel
theorem dX7_bytesOf_19 : decode cX7_bytesOf 19 = .ok (.bastore, 1) := by decide +kernel
theorem dX7_bytesOf_20 : decode cX7_bytesOf 20 = .ok (.aload_n 0, 1) := by decide +kernel
theorem dX7_bytesOf_21 : decode cX7_bytesOf 21 = .ok (.dup, 1) := by decide +kernel
theorem dX7_bytesOf_22 : decode cX7_bytesOf 22 = .ok (.getfield 81, 3) := by decide +kernel
theorem dX7_bytesOf_25 : decode cX7_bytesOf 25 = .ok (.iconst 1, 1) := by decide +kernel
theorem dX7_bytesOf_26 : decode cX7_bytesOf 26 = .ok (.iadd, 1) := by decide +kernel
theorem dX7_bytesOf_27 : decode cX7_bytesOf 27 = .ok (.putfield 81, 3) := by decide +kernel
theorem dX7_bytesOf_30 : decode cX7_bytesOf 30 = .ok (.iinc 2 (-8), 3) := by decide +kernel
theorem dX7_bytesOf_33 : decode cX7_bytesOf 33 = .ok (.goto (-30), 3) := by decide +kernel
theorem dX7_bytesOf_36 : decode cX7_bytesOf 36 = .ok (.return_, 1) := by decide +kernel
theorem dX7_byteAt_0 : decode cX7_byteAt 0 = .ok (.iload_n 1, 1) := by decide +kernel
theorem dX7_byteAt_1 : decode cX7_byteAt 1 = .ok (.aload_n 0, 1) := by decide +kernel
theorem dX7_byteAt_2 : decode cX7_byteAt 2 = .ok (.getfield 88, 3) := by decide +kernel
theorem dX7_byteAt_5 : decode cX7_byteAt 5 = .ok (.if_icmp .ge 16, 3) := by decide +kernel
theorem dX7_byteAt_8 : decode cX7_byteAt 8 = .ok (.aload_n 0, 1) := by decide +kernel
theorem dX7_byteAt_9 : decode cX7_byteAt 9 = .ok (.getfield 34, 3) := by decide +kernel
theorem dX7_byteAt_12 : decode cX7_byteAt 12 = .ok (.iload_n 1, 1) := by decide +kernel
theorem dX7_byteAt_13 : decode cX7_byteAt 13 = .ok (.baload, 1) := by decide +kernel
theorem dX7_byteAt_14 : decode cX7_byteAt 14 = .ok (.sipush 255, 3) := by decide +kernel
theorem dX7_byteAt_17 : decode cX7_byteAt 17 = .ok (.iand, 1) := by decide +kernel
theorem dX7_byteAt_18 : decode cX7_byteAt 18 = .ok (.goto 4, 3) := by decide +kernel
theorem dX7_byteAt_21 : decode cX7_byteAt 21 = .ok (.iconst (-1), 1) := by decide +kernel
theorem dX7_byteAt_22 : decode cX7_byteAt 22 = .ok (.ireturn, 1) := by decide +kernel
theorem dX7_isSign_0 : decode cX7_isSign 0 = .ok (.iload_n 0, 1) := by decide +kernel
theorem dX7_isSign_1 : decode cX7_isSign 1 = .ok (.bipush 59, 2) := by decide +kernel
theorem dX7_isSign_3 : decode cX7_isSign 3 = .ok (.if_icmp .eq 39, 3) := by decide +kernel
theorem dX7_isSign_6 : decode cX7_isSign 6 = .ok (.iload_n 0, 1) := by decide +kernel
theorem dX7_isSign_7 : decode cX7_isSign 7 = .ok (.bipush 40, 2) := by decide +kernel
theorem dX7_isSign_9 : decode cX7_isSign 9 = .ok (.if_icmp .eq 33, 3) := by decide +kernel
theorem dX7_isSign_12 : decode cX7_isSign 12 = .ok (.iload_n 0, 1) := by decide +kernel
theorem dX7_isSign_13 : decode cX7_isSign 13 = .ok (.bipush 41, 2) := by decide +kernel
theorem dX7_isSign_15 : decode cX7_isSign 15 = .ok (.if_icmp .eq 27, 3) := by decide +kernel
theorem dX7_isSign_18 : decode cX7_isSign 18 = .ok (.iload_n 0, 1) := by decide +kernel
theorem dX7_isSign_19 : decode cX7_isSign 19 = .ok (.bipush 43, 2) := by decide +kernel
theorem dX7_isSign_21 : decode cX7_isSign 21 = .ok (.if_icmp .eq 21, 3) := by decide +kernel
theorem dX7_isSign_24 : decode cX7_isSign 24 = .ok (.iload_n 0, 1) := by decide +kernel
theorem dX7_isSign_25 : decode cX7_isSign 25 = .ok (.bipush 45, 2) := by decide +kernel
theorem dX7_isSign_27 : decode cX7_isSign 27 = .ok (.if_icmp .eq 15, 3) := by decide +kernel
theorem dX7_isSign_30 : decode cX7_isSign 30 = .ok (.iload_n 0, 1) := by decide +kernel
theorem dX7_isSign_31 : decode cX7_isSign 31 = .ok (.bipush 42, 2) := by decide +kernel
theorem dX7_isSign_33 : decode cX7_isSign 33 = .ok (.if_icmp .eq 9, 3) := by decide +kernel
theorem dX7_isSign_36 : decode cX7_isSign 36 = .ok (.iload_n 0, 1) := by decide +kernel
theorem dX7_isSign_37 : decode cX7_isSign 37 = .ok (.bipush 47, 2) := by decide +kernel
theorem dX7_isSign_39 : decode cX7_isSign 39 = .ok (.if_icmp .ne 7, 3) := by decide +kernel
theorem dX7_isSign_42 : decode cX7_isSign 42 = .ok (.iconst 1, 1) := by decide +kernel
theorem dX7_isSign_43 : decode cX7_isSign 43 = .ok (.goto 4, 3) := by decide +kernel
theorem dX7_isSign_46 : decode cX7_isSign 46 = .ok (.iconst 0, 1) := by decide +kernel
theorem dX7_isSign_47 : decode cX7_isSign 47 = .ok (.ireturn, 1) := by decide +kernel
theorem dX7_advance_0 : decode cX7_advance 0 = .ok (.aload_n 0, 1) := by decide +kernel
theorem dX7_advance_1 : decode cX7_advance 1 = .ok (.aload_n 0, 1) := by decide +kernel
theorem dX7_advance_2 : decode cX7_advance 2 = .ok (.getfield 91, 3) := by decide +kernel
theorem dX7_advance_5 : decode cX7_advance 5 = .ok (.invokevirtual 94, 3) := by decide +kernel
theorem dX7_advance_8 : decode cX7_advance 8 = .ok (.bipush 32, 2) := by decide +kernel
theorem dX7_advance_10 : decode cX7_advance 10 = .ok (.if_icmp .eq 16, 3) := by decide +kernel
theorem dX7_advance_13 : decode cX7_advance 13 = .ok (.aload_n 0, 1) := by decide +kernel
theorem dX7_advance_14 : decode cX7_advance 14 = .ok (.aload_n 0, 1) := by decide +kernel
theorem dX7_advance_15 : decode cX7_advance 15 = .ok (.getfield 91, 3) := by decide +kernel
theorem dX7_advance_18 : decode cX7_advance 18 = .ok (.invokevirtual 94, 3) := by decide +kernel
theorem dX7_advance_21 : decode cX7_advance 21 = .ok (.bipush 10, 2) := by decide +kernel
theorem dX7_advance_23 : decode cX7_advance 23 = .ok (.if_icmp .ne 16, 3) := by decide +kernel
theorem dX7_advance_26 : decode cX7_advance 26 = .ok (.aload_n 0, 1) := by decide +kernel
theorem dX7_advance_27 : decode cX7_advance 27 = .ok (.dup, 1) := by decide +kernel
theorem dX7_advance_28 : decode cX7_advance 28 = .ok (.getfield 91, 3) := by decide +kernel
theorem dX7_advance_31 : decode cX7_advance 31 = .ok (.iconst 1, 1) := by decide +kernel
theorem dX7_advance_32 : decode cX7_advance 32 = .ok (.iadd, 1) := by decide +kernel
theorem dX7_advance_33 : decode cX7_advance 33 = .ok (.putfield 91, 3) := by decide +kernel
theorem dX7_advance_36 : decode cX7_advance 36 = .ok (.goto (-36), 3) := by decide +kernel
theorem dX7_advance_39 : decode cX7_advance 39 = .ok (.aload_n 0, 1) := by decide +kernel
theorem dX7_advance_40 : decode cX7_advance 40 = .ok (.aload_n 0, 1) := by decide +kernel
theorem dX7_advance_41 : decode cX7_advance 41 = .ok (.getfield 91, 3) := by decide +kernel
theorem dX7_advance_44 : decode cX7_advance 44 = .ok (.putfield 98, 3) := by decide +kernel
theorem dX7_advance_47 : decode cX7_advance 47 = .ok (.aload_n 0, 1) := by decide +kernel
theorem dX7_advance_48 : decode cX7_advance 48 = .ok (.iconst 0, 1) := by decide +kernel
theorem dX7_advance_49 : decode cX7_advance 49 = .ok (.putfield 101, 3) := by decide +kernel
theorem dX7_advance_52 : decode cX7_advance 52 = .ok (.aload_n 0, 1) := by decide +kernel
theorem dX7_advance_53 : decode cX7_advance 53 = .ok (.aload_n 0, 1) := by decide +kernel
theorem dX7_advance_54 : decode cX7_advance 54 = .ok (.getfield 91, 3) := by decide +kernel
theorem dX7_advance_57 : decode cX7_advance 57 = .ok (.invokevirtual 94, 3) := by decide +kernel
theorem dX7_advance_60 : decode cX7_advance 60 = .ok (.istore_n 1, 1) := by decide +kernel
theorem dX7_advance_61 : decode cX7_advance 61 = .ok (.iload_n 1, 1) := by decide +kernel
theorem dX7_advance_62 : decode cX7_advance 62 = .ok (.iconst (-1), 1) := by decide +kernel
theorem dX7_advance_63 : decode cX7_advance 63 = .ok (.if_icmp .ne 11, 3) := by decide +kernel
theorem dX7_advance_66 : decode cX7_advance 66 = .ok (.aload_n 0, 1) := by decide +kernel
theorem dX7_advance_67 : decode cX7_advance 67 = .ok (.iconst 0, 1) := by decide +kernel
theorem dX7_advance_68 : decode cX7_advance 68 = .ok (.putfield 104, 3) := by decide +kernel
theorem dX7_advance_71 : decode cX7_advance 71 = .ok (.goto 212, 3) := by decide +kernel
theorem dX7_advance_74 : decode cX7_advance 74 = .ok (.iload_n 1, 1) := by decide +kernel
theorem dX7_advance_75 : decode cX7_advance 75 = .ok (.bipush 97, 2) := by decide +kernel
theorem dX7_advance_77 : decode cX7_advance 77 = .ok (.bipush 122, 2) := by decide +kernel
theorem dX7_advance_79 : decode cX7_advance 79 = .ok (.invokestatic 107, 3) := by decide +kernel
theorem dX7_advance_82 : decode cX7_advance 82 = .ok (.ifCond .eq 60, 3) := by decide +kernel
theorem dX7_advance_85 : decode cX7_advance 85 = .ok (.aload_n 0, 1) := by decide +kernel
theorem dX7_advance_86 : decode cX7_advance 86 = .ok (.aload_n 0, 1) := by decide +kernel
theorem dX7_advance_87 : decode cX7_advance 87 = .ok (.getfield 91, 3) := by decide +kernel
theorem dX7_advance_90 : decode cX7_advance 90 = .ok (.invokevirtual 94, 3) := by decide +kernel
theorem dX7_advance_93 : decode cX7_advance 93 = .ok (.bipush 97, 2) := by decide +kernel
theorem dX7_advance_95 : decode cX7_advance 95 = .ok (.bipush 122, 2) := by decide +kernel
theorem dX7_advance_97 : decode cX7_advance 97 = .ok (.invokestatic 107, 3) := by decide +kernel
theorem dX7_advance_100 : decode cX7_advance 100 = .ok (.ifCond .eq 16, 3) := by decide +kernel
theorem dX7_advance_103 : decode cX7_advance 103 = .ok (.aload_n 0, 1) := by decide +kernel
theorem dX7_advance_104 : decode cX7_advance 104 = .ok (.dup, 1) := by decide +kernel
theorem dX7_advance_105 : decode cX7_advance 105 = .ok (.getfield 91, 3) := by decide +kernel
theorem dX7_advance_108 : decode cX7_advance 108 = .ok (.iconst 1, 1) := by decide +kernel
theorem dX7_advance_109 : decode cX7_advance 109 = .ok (.iadd, 1) := by decide +kernel
theorem dX7_advance_110 : decode cX7_advance 110 = .ok (.putfield 91, 3) := by decide +kernel
theorem dX7_advance_113 : decode cX7_advance 113 = .ok (.goto (-28), 3) := by decide +kernel
theorem dX7_advance_116 : decode cX7_advance 116 = .ok (.aload_n 0, 1) := by decide +kernel
theorem dX7_advance_117 : decode cX7_advance 117 = .ok (.aload_n 0, 1) := by decide +kernel
theorem dX7_advance_118 : decode cX7_advance 118 = .ok (.getfield 91, 3) := by decide +kernel
theorem dX7_advance_121 : decode cX7_advance 121 = .ok (.aload_n 0, 1) := by decide +kernel
theorem dX7_advance_122 : decode cX7_advance 122 = .ok (.getfield 98, 3) := by decide +kernel
theorem dX7_advance_125 : decode cX7_advance 125 = .ok (.isub, 1) := by decide +kernel
theorem dX7_advance_126 : decode cX7_advance 126 = .ok (.bipush 8, 2) := by decide +kernel
theorem dX7_advance_128 : decode cX7_advance 128 = .ok (.if_icmp .le 7, 3) := by decide +kernel
theorem dX7_advance_131 : decode cX7_advance 131 = .ok (.iconst 4, 1) := by decide +kernel
theorem dX7_advance_132 : decode cX7_advance 132 = .ok (.goto 4, 3) := by decide +kernel
theorem dX7_advance_135 : decode cX7_advance 135 = .ok (.iconst 1, 1) := by decide +kernel
theorem dX7_advance_136 : decode cX7_advance 136 = .ok (.putfield 104, 3) := by decide +kernel
theorem dX7_advance_139 : decode cX7_advance 139 = .ok (.goto 144, 3) := by decide +kernel
theorem dX7_advance_142 : decode cX7_advance 142 = .ok (.iload_n 1, 1) := by decide +kernel
theorem dX7_advance_143 : decode cX7_advance 143 = .ok (.bipush 48, 2) := by decide +kernel
theorem dX7_advance_145 : decode cX7_advance 145 = .ok (.bipush 57, 2) := by decide +kernel
theorem dX7_advance_147 : decode cX7_advance 147 = .ok (.invokestatic 107, 3) := by decide +kernel
theorem dX7_advance_150 : decode cX7_advance 150 = .ok (.ifCond .eq 102, 3) := by decide +kernel
theorem dX7_advance_153 : decode cX7_advance 153 = .ok (.aload_n 0, 1) := by decide +kernel
theorem dX7_advance_154 : decode cX7_advance 154 = .ok (.aload_n 0, 1) := by decide +kernel
theorem dX7_advance_155 : decode cX7_advance 155 = .ok (.getfield 91, 3) := by decide +kernel
theorem dX7_advance_158 : decode cX7_advance 158 = .ok (.invokevirtual 94, 3) := by decide +kernel
theorem dX7_advance_161 : decode cX7_advance 161 = .ok (.bipush 48, 2) := by decide +kernel
theorem dX7_advance_163 : decode cX7_advance 163 = .ok (.bipush 57, 2) := by decide +kernel
theorem dX7_advance_165 : decode cX7_advance 165 = .ok (.invokestatic 107, 3) := by decide +kernel
theorem dX7_advance_168 : decode cX7_advance 168 = .ok (.ifCond .eq 59, 3) := by decide +kernel
theorem dX7_advance_171 : decode cX7_advance 171 = .ok (.aload_n 0, 1) := by decide +kernel
theorem dX7_advance_172 : decode cX7_advance 172 = .ok (.aload_n 0, 1) := by decide +kernel
theorem dX7_advance_173 : decode cX7_advance 173 = .ok (.getfield 91, 3) := by decide +kernel
theorem dX7_advance_176 : decode cX7_advance 176 = .ok (.aload_n 0, 1) := by decide +kernel
theorem dX7_advance_177 : decode cX7_advance 177 = .ok (.getfield 98, 3) := by decide +kernel
theorem dX7_advance_180 : decode cX7_advance 180 = .ok (.isub, 1) := by decide +kernel
theorem dX7_advance_181 : decode cX7_advance 181 = .ok (.iconst 4, 1) := by decide +kernel
theorem dX7_advance_182 : decode cX7_advance 182 = .ok (.if_icmp .ge 25, 3) := by decide +kernel
theorem dX7_advance_185 : decode cX7_advance 185 = .ok (.bipush 10, 2) := by decide +kernel
theorem dX7_advance_187 : decode cX7_advance 187 = .ok (.aload_n 0, 1) := by decide +kernel
theorem dX7_advance_188 : decode cX7_advance 188 = .ok (.getfield 101, 3) := by decide +kernel
theorem dX7_advance_191 : decode cX7_advance 191 = .ok (.imul, 1) := by decide +kernel
theorem dX7_advance_192 : decode cX7_advance 192 = .ok (.aload_n 0, 1) := by decide +kernel
theorem dX7_advance_193 : decode cX7_advance 193 = .ok (.aload_n 0, 1) := by decide +kernel
theorem dX7_advance_194 : decode cX7_advance 194 = .ok (.getfield 91, 3) := by decide +kernel
theorem dX7_advance_197 : decode cX7_advance 197 = .ok (.invokevirtual 94, 3) := by decide +kernel
theorem dX7_advance_200 : decode cX7_advance 200 = .ok (.iadd, 1) := by decide +kernel
theorem dX7_advance_201 : decode cX7_advance 201 = .ok (.bipush 48, 2) := by decide +kernel
theorem dX7_advance_203 : decode cX7_advance 203 = .ok (.isub, 1) := by decide +kernel
theorem dX7_advance_204 : decode cX7_advance 204 = .ok (.goto 7, 3) := by decide +kernel
theorem dX7_advance_207 : decode cX7_advance 207 = .ok (.aload_n 0, 1) := by decide +kernel
theorem dX7_advance_208 : decode cX7_advance 208 = .ok (.getfield 101, 3) := by decide +kernel
theorem dX7_advance_211 : decode cX7_advance 211 = .ok (.putfield 101, 3) := by decide +kernel
theorem dX7_advance_214 : decode cX7_advance 214 = .ok (.aload_n 0, 1) := by decide +kernel
theorem dX7_advance_215 : decode cX7_advance 215 = .ok (.dup, 1) := by decide +kernel
theorem dX7_advance_216 : decode cX7_advance 216 = .ok (.getfield 91, 3) := by decide +kernel
theorem dX7_advance_219 : decode cX7_advance 219 = .ok (.iconst 1, 1) := by decide +kernel
theorem dX7_advance_220 : decode cX7_advance 220 = .ok (.iadd, 1) := by decide +kernel
theorem dX7_advance_221 : decode cX7_advance 221 = .ok (.putfield 91, 3) := by decide +kernel
theorem dX7_advance_224 : decode cX7_advance 224 = .ok (.goto (-71), 3) := by decide +kernel
theorem dX7_advance_227 : decode cX7_advance 227 = .ok (.aload_n 0, 1) := by decide +kernel
theorem dX7_advance_228 : decode cX7_advance 228 = .ok (.aload_n 0, 1) := by decide +kernel
theorem dX7_advance_229 : decode cX7_advance 229 = .ok (.getfield 91, 3) := by decide +kernel
theorem dX7_advance_232 : decode cX7_advance 232 = .ok (.aload_n 0, 1) := by decide +kernel
theorem dX7_advance_233 : decode cX7_advance 233 = .ok (.getfield 98, 3) := by decide +kernel
theorem dX7_advance_236 : decode cX7_advance 236 = .ok (.isub, 1) := by decide +kernel
theorem dX7_advance_237 : decode cX7_advance 237 = .ok (.iconst 4, 1) := by decide +kernel
theorem dX7_advance_238 : decode cX7_advance 238 = .ok (.if_icmp .le 7, 3) := by decide +kernel
theorem dX7_advance_241 : decode cX7_advance 241 = .ok (.iconst 4, 1) := by decide +kernel
theorem dX7_advance_242 : decode cX7_advance 242 = .ok (.goto 4, 3) := by decide +kernel
theorem dX7_advance_245 : decode cX7_advance 245 = .ok (.iconst 2, 1) := by decide +kernel
theorem dX7_advance_246 : decode cX7_advance 246 = .ok (.putfield 104, 3) := by decide +kernel
theorem dX7_advance_249 : decode cX7_advance 249 = .ok (.goto 34, 3) := by decide +kernel
theorem dX7_advance_252 : decode cX7_advance 252 = .ok (.aload_n 0, 1) := by decide +kernel
theorem dX7_advance_253 : decode cX7_advance 253 = .ok (.dup, 1) := by decide +kernel
theorem dX7_advance_254 : decode cX7_advance 254 = .ok (.getfield 91, 3) := by decide +kernel
theorem dX7_advance_257 : decode cX7_advance 257 = .ok (.iconst 1, 1) := by decide +kernel
theorem dX7_advance_258 : decode cX7_advance 258 = .ok (.iadd, 1) := by decide +kernel
theorem dX7_advance_259 : decode cX7_advance 259 = .ok (.putfield 91, 3) := by decide +kernel
theorem dX7_advance_262 : decode cX7_advance 262 = .ok (.aload_n 0, 1) := by decide +kernel
theorem dX7_advance_263 : decode cX7_advance 263 = .ok (.iload_n 1, 1) := by decide +kernel
theorem dX7_advance_264 : decode cX7_advance 264 = .ok (.putfield 101, 3) := by decide +kernel
theorem dX7_advance_267 : decode cX7_advance 267 = .ok (.aload_n 0, 1) := by decide +kernel
theorem dX7_advance_268 : decode cX7_advance 268 = .ok (.iload_n 1, 1) := by decide +kernel
theorem dX7_advance_269 : decode cX7_advance 269 = .ok (.invokestatic 111, 3) := by decide +kernel
theorem dX7_advance_272 : decode cX7_advance 272 = .ok (.ifCond .eq 7, 3) := by decide +kernel
theorem dX7_advance_275 : decode cX7_advance 275 = .ok (.iconst 3, 1) := by decide +kernel
theorem dX7_advance_276 : decode cX7_advance 276 = .ok (.goto 4, 3) := by decide +kernel
theorem dX7_advance_279 : decode cX7_advance 279 = .ok (.iconst 4, 1) := by decide +kernel
theorem dX7_advance_280 : decode cX7_advance 280 = .ok (.putfield 104, 3) := by decide +kernel
theorem dX7_advance_283 : decode cX7_advance 283 = .ok (.return_, 1) := by decide +kernel
theorem dX7_isWord_0 : decode cX7_isWord 0 = .ok (.aload_n 0, 1) := by decide +kernel
theorem dX7_isWord_1 : decode cX7_isWord 1 = .ok (.getfield 104, 3) := by decide +kernel
theorem dX7_isWord_4 : decode cX7_isWord 4 = .ok (.iconst 1, 1) := by decide +kernel
theorem dX7_isWord_5 : decode cX7_isWord 5 = .ok (.if_icmp .ne 23, 3) := by decide +kernel
theorem dX7_isWord_8 : decode cX7_isWord 8 = .ok (.aload_n 0, 1) := by decide +kernel
theorem dX7_isWord_9 : decode cX7_isWord 9 = .ok (.getfield 91, 3) := by decide +kernel
theorem dX7_isWord_12 : decode cX7_isWord 12 = .ok (.aload_n 0, 1) := by decide +kernel
theorem dX7_isWord_13 : decode cX7_isWord 13 = .ok (.getfield 98, 3) := by decide +kernel
theorem dX7_isWord_16 : decode cX7_isWord 16 = .ok (.isub, 1) := by decide +kernel
theorem dX7_isWord_17 : decode cX7_isWord 17 = .ok (.aload_n 1, 1) := by decide +kernel
theorem dX7_isWord_18 : decode cX7_isWord 18 = .ok (.invokevirtual 114, 3) := by decide +kernel
theorem dX7_isWord_21 : decode cX7_isWord 21 = .ok (.if_icmp .ne 7, 3) := by decide +kernel
theorem dX7_isWord_24 : decode cX7_isWord 24 = .ok (.iconst 1, 1) := by decide +kernel
theorem dX7_isWord_25 : decode cX7_isWord 25 = .ok (.goto 4, 3) := by decide +kernel
theorem dX7_isWord_28 : decode cX7_isWord 28 = .ok (.iconst 0, 1) := by decide +kernel
theorem dX7_isWord_29 : decode cX7_isWord 29 = .ok (.istore_n 2, 1) := by decide +kernel
theorem dX7_isWord_30 : decode cX7_isWord 30 = .ok (.iconst 0, 1) := by decide +kernel
theorem dX7_isWord_31 : decode cX7_isWord 31 = .ok (.istore_n 3, 1) := by decide +kernel
theorem dX7_isWord_32 : decode cX7_isWord 32 = .ok (.iload_n 3, 1) := by decide +kernel
theorem dX7_isWord_33 : decode cX7_isWord 33 = .ok (.aload_n 1, 1) := by decide +kernel
theorem dX7_isWord_34 : decode cX7_isWord 34 = .ok (.invokevirtual 114, 3) := by decide +kernel
theorem dX7_isWord_37 : decode cX7_isWord 37 = .ok (.if_icmp .ge 38, 3) := by decide +kernel
theorem dX7_isWord_40 : decode cX7_isWord 40 = .ok (.iload_n 2, 1) := by decide +kernel
theorem dX7_isWord_41 : decode cX7_isWord 41 = .ok (.ifCond .eq 34, 3) := by decide +kernel
theorem dX7_isWord_44 : decode cX7_isWord 44 = .ok (.aload_n 0, 1) := by decide +kernel
theorem dX7_isWord_45 : decode cX7_isWord 45 = .ok (.getfield 34, 3) := by decide +kernel
theorem dX7_isWord_48 : decode cX7_isWord 48 = .ok (.aload_n 0, 1) := by decide +kernel
theorem dX7_isWord_49 : decode cX7_isWord 49 = .ok (.getfield 98, 3) := by decide +kernel
theorem dX7_isWord_52 : decode cX7_isWord 52 = .ok (.iload_n 3, 1) := by decide +kernel
theorem dX7_isWord_53 : decode cX7_isWord 53 = .ok (.iadd, 1) := by decide +kernel
theorem dX7_isWord_54 : decode cX7_isWord 54 = .ok (.baload, 1) := by decide +kernel
theorem dX7_isWord_55 : decode cX7_isWord 55 = .ok (.aload_n 1, 1) := by decide +kernel
theorem dX7_isWord_56 : decode cX7_isWord 56 = .ok (.iload_n 3, 1) := by decide +kernel
theorem dX7_isWord_57 : decode cX7_isWord 57 = .ok (.invokevirtual 119, 3) := by decide +kernel
theorem dX7_isWord_60 : decode cX7_isWord 60 = .ok (.if_icmp .ne 7, 3) := by decide +kernel
theorem dX7_isWord_63 : decode cX7_isWord 63 = .ok (.iconst 1, 1) := by decide +kernel
theorem dX7_isWord_64 : decode cX7_isWord 64 = .ok (.goto 4, 3) := by decide +kernel
theorem dX7_isWord_67 : decode cX7_isWord 67 = .ok (.iconst 0, 1) := by decide +kernel
theorem dX7_isWord_68 : decode cX7_isWord 68 = .ok (.istore_n 2, 1) := by decide +kernel
theorem dX7_isWord_69 : decode cX7_isWord 69 = .ok (.iinc 3 1, 3) := by decide +kernel
theorem dX7_isWord_72 : decode cX7_isWord 72 = .ok (.goto (-40), 3) := by decide +kernel
theorem dX7_isWord_75 : decode cX7_isWord 75 = .ok (.iload_n 2, 1) := by decide +kernel
theorem dX7_isWord_76 : decode cX7_isWord 76 = .ok (.ireturn, 1) := by decide +kernel
theorem dX7_isSignHere_0 : decode cX7_isSignHere 0 = .ok (.aload_n 0, 1) := by decide +kernel
theorem dX7_isSignHere_1 : decode cX7_isSignHere 1 = .ok (.getfield 104, 3) := by decide +kernel
theorem dX7_isSignHere_4 : decode cX7_isSignHere 4 = .ok (.iconst 3, 1) := by decide +kernel
theorem dX7_isSignHere_5 : decode cX7_isSignHere 5 = .ok (.if_icmp .ne 15, 3) := by decide +kernel
theorem dX7_isSignHere_8 : decode cX7_isSignHere 8 = .ok (.aload_n 0, 1) := by decide +kernel
theorem dX7_isSignHere_9 : decode cX7_isSignHere 9 = .ok (.getfield 101, 3) := by decide +kernel
theorem dX7_isSignHere_12 : decode cX7_isSignHere 12 = .ok (.iload_n 1, 1) := by decide +kernel
theorem dX7_isSignHere_13 : decode cX7_isSignHere 13 = .ok (.if_icmp .ne 7, 3) := by decide +kernel
theorem dX7_isSignHere_16 : decode cX7_isSignHere 16 = .ok (.iconst 1, 1) := by decide +kernel
theorem dX7_isSignHere_17 : decode cX7_isSignHere 17 = .ok (.goto 4, 3) := by decide +kernel
theorem dX7_isSignHere_20 : decode cX7_isSignHere 20 = .ok (.iconst 0, 1) := by decide +kernel
theorem dX7_isSignHere_21 : decode cX7_isSignHere 21 = .ok (.ireturn, 1) := by decide +kernel
theorem dX7_fails_0 : decode cX7_fails 0 = .ok (.aload_n 0, 1) := by decide +kernel
theorem dX7_fails_1 : decode cX7_fails 1 = .ok (.getfield 123, 3) := by decide +kernel
theorem dX7_fails_4 : decode cX7_fails 4 = .ok (.ifCond .ne 16, 3) := by decide +kernel
theorem dX7_fails_7 : decode cX7_fails 7 = .ok (.aload_n 0, 1) := by decide +kernel
theorem dX7_fails_8 : decode cX7_fails 8 = .ok (.iload_n 1, 1) := by decide +kernel
theorem dX7_fails_9 : decode cX7_fails 9 = .ok (.putfield 123, 3) := by decide +kernel
theorem dX7_fails_12 : decode cX7_fails 12 = .ok (.aload_n 0, 1) := by decide +kernel
theorem dX7_fails_13 : decode cX7_fails 13 = .ok (.aload_n 0, 1) := by decide +kernel
theorem dX7_fails_14 : decode cX7_fails 14 = .ok (.getfield 98, 3) := by decide +kernel
theorem dX7_fails_17 : decode cX7_fails 17 = .ok (.putfield 38, 3) := by decide +kernel
theorem dX7_fails_20 : decode cX7_fails 20 = .ok (.iconst 0, 1) := by decide +kernel
theorem dX7_fails_21 : decode cX7_fails 21 = .ok (.ireturn, 1) := by decide +kernel
theorem dX7_sees_0 : decode cX7_sees 0 = .ok (.aload_n 0, 1) := by decide +kernel
theorem dX7_sees_1 : decode cX7_sees 1 = .ok (.getfield 104, 3) := by decide +kernel
theorem dX7_sees_4 : decode cX7_sees 4 = .ok (.iconst 2, 1) := by decide +kernel
theorem dX7_sees_5 : decode cX7_sees 5 = .ok (.if_icmp .eq 9, 3) := by decide +kernel
theorem dX7_sees_8 : decode cX7_sees 8 = .ok (.aload_n 0, 1) := by decide +kernel
theorem dX7_sees_9 : decode cX7_sees 9 = .ok (.iconst 1, 1) := by decide +kernel
theorem dX7_sees_10 : decode cX7_sees 10 = .ok (.invokevirtual 126, 3) := by decide +kernel
theorem dX7_sees_13 : decode cX7_sees 13 = .ok (.ireturn, 1) := by decide +kernel
theorem dX7_sees_14 : decode cX7_sees 14 = .ok (.aload_n 0, 1) := by decide +kernel
theorem dX7_sees_15 : decode cX7_sees 15 = .ok (.getfield 101, 3) := by decide +kernel
theorem dX7_sees_18 : decode cX7_sees 18 = .ok (.iload_n 1, 1) := by decide +kernel
theorem dX7_sees_19 : decode cX7_sees 19 = .ok (.iload_n 2, 1) := by decide +kernel
theorem dX7_sees_20 : decode cX7_sees 20 = .ok (.invokestatic 107, 3) := by decide +kernel
theorem dX7_sees_23 : decode cX7_sees 23 = .ok (.ifCond .ne 9, 3) := by decide +kernel
theorem dX7_sees_26 : decode cX7_sees 26 = .ok (.aload_n 0, 1) := by decide +kernel
theorem dX7_sees_27 : decode cX7_sees 27 = .ok (.iconst 3, 1) := by decide +kernel
theorem dX7_sees_28 : decode cX7_sees 28 = .ok (.invokevirtual 126, 3) := by decide +kernel
theorem dX7_sees_31 : decode cX7_sees 31 = .ok (.ireturn, 1) := by decide +kernel
theorem dX7_sees_32 : decode cX7_sees 32 = .ok (.aload_n 0, 1) := by decide +kernel
theorem dX7_sees_33 : decode cX7_sees 33 = .ok (.aload_n 0, 1) := by decide +kernel
theorem dX7_sees_34 : decode cX7_sees 34 = .ok (.getfield 101, 3) := by decide +kernel
theorem dX7_sees_37 : decode cX7_sees 37 = .ok (.putfield 129, 3) := by decide +kernel
theorem dX7_sees_40 : decode cX7_sees 40 = .ok (.iconst 1, 1) := by decide +kernel
theorem dX7_sees_41 : decode cX7_sees 41 = .ok (.ireturn, 1) := by decide +kernel
theorem dX7_takes_0 : decode cX7_takes 0 = .ok (.aload_n 0, 1) := by decide +kernel
theorem dX7_takes_1 : decode cX7_takes 1 = .ok (.iload_n 1, 1) := by decide +kernel
theorem dX7_takes_2 : decode cX7_takes 2 = .ok (.iload_n 2, 1) := by decide +kernel
theorem dX7_takes_3 : decode cX7_takes 3 = .ok (.invokevirtual 132, 3) := by decide +kernel
theorem dX7_takes_6 : decode cX7_takes 6 = .ok (.ifCond .ne 5, 3) := by decide +kernel
theorem dX7_takes_9 : decode cX7_takes 9 = .ok (.iconst 0, 1) := by decide +kernel
theorem dX7_takes_10 : decode cX7_takes 10 = .ok (.ireturn, 1) := by decide +kernel
theorem dX7_takes_11 : decode cX7_takes 11 = .ok (.aload_n 0, 1) := by decide +kernel
theorem dX7_takes_12 : decode cX7_takes 12 = .ok (.invokevirtual 136, 3) := by decide +kernel
theorem dX7_takes_15 : decode cX7_takes 15 = .ok (.iconst 1, 1) := by decide +kernel
theorem dX7_takes_16 : decode cX7_takes 16 = .ok (.ireturn, 1) := by decide +kernel
theorem dX7_starts_0 : decode cX7_starts 0 = .ok (.iload_n 2, 1) := by decide +kernel
theorem dX7_starts_1 : decode cX7_starts 1 = .ok (.ifCond .ne 9, 3) := by decide +kernel
theorem dX7_starts_4 : decode cX7_starts 4 = .ok (.aload_n 0, 1) := by decide +kernel
theorem dX7_starts_5 : decode cX7_starts 5 = .ok (.iload_n 1, 1) := by decide +kernel
theorem dX7_starts_6 : decode cX7_starts 6 = .ok (.invokevirtual 126, 3) := by decide +kernel
theorem dX7_starts_9 : decode cX7_starts 9 = .ok (.ireturn, 1) := by decide +kernel
theorem dX7_starts_10 : decode cX7_starts 10 = .ok (.aload_n 0, 1) := by decide +kernel
theorem dX7_starts_11 : decode cX7_starts 11 = .ok (.invokevirtual 136, 3) := by decide +kernel
theorem dX7_starts_14 : decode cX7_starts 14 = .ok (.iconst 1, 1) := by decide +kernel
theorem dX7_starts_15 : decode cX7_starts 15 = .ok (.ireturn, 1) := by decide +kernel
theorem dX7_once_0 : decode cX7_once 0 = .ok (.aload_n 0, 1) := by decide +kernel
theorem dX7_once_1 : decode cX7_once 1 = .ok (.iconst 2, 1) := by decide +kernel
theorem dX7_once_2 : decode cX7_once 2 = .ok (.aload_n 0, 1) := by decide +kernel
theorem dX7_once_3 : decode cX7_once 3 = .ok (.getfield 139, 3) := by decide +kernel
theorem dX7_once_6 : decode cX7_once 6 = .ok (.iload_n 1, 1) := by decide +kernel
theorem dX7_once_7 : decode cX7_once 7 = .ok (.invokestatic 142, 3) := by decide +kernel
theorem dX7_once_10 : decode cX7_once 10 = .ok (.ifCond .ne 7, 3) := by decide +kernel
theorem dX7_once_13 : decode cX7_once 13 = .ok (.iconst 1, 1) := by decide +kernel
theorem dX7_once_14 : decode cX7_once 14 = .ok (.goto 4, 3) := by decide +kernel
theorem dX7_once_17 : decode cX7_once 17 = .ok (.iconst 0, 1) := by decide +kernel
theorem dX7_once_18 : decode cX7_once 18 = .ok (.invokevirtual 145, 3) := by decide +kernel
theorem dX7_once_21 : decode cX7_once 21 = .ok (.ifCond .ne 5, 3) := by decide +kernel
theorem dX7_once_24 : decode cX7_once 24 = .ok (.iconst 0, 1) := by decide +kernel
theorem dX7_once_25 : decode cX7_once 25 = .ok (.ireturn, 1) := by decide +kernel
theorem dX7_once_26 : decode cX7_once 26 = .ok (.aload_n 0, 1) := by decide +kernel
theorem dX7_once_27 : decode cX7_once 27 = .ok (.dup, 1) := by decide +kernel
theorem dX7_once_28 : decode cX7_once 28 = .ok (.getfield 139, 3) := by decide +kernel
theorem dX7_once_31 : decode cX7_once 31 = .ok (.iconst 1, 1) := by decide +kernel
theorem dX7_once_32 : decode cX7_once 32 = .ok (.iload_n 1, 1) := by decide +kernel
theorem dX7_once_33 : decode cX7_once 33 = .ok (.ishl, 1) := by decide +kernel
theorem dX7_once_34 : decode cX7_once 34 = .ok (.ior, 1) := by decide +kernel
theorem dX7_once_35 : decode cX7_once 35 = .ok (.putfield 139, 3) := by decide +kernel
theorem dX7_once_38 : decode cX7_once 38 = .ok (.iconst 1, 1) := by decide +kernel
theorem dX7_once_39 : decode cX7_once 39 = .ok (.ireturn, 1) := by decide +kernel
theorem dX7_sets_0 : decode cX7_sets 0 = .ok (.aload_n 0, 1) := by decide +kernel
theorem dX7_sets_1 : decode cX7_sets 1 = .ok (.iload_n 2, 1) := by decide +kernel
theorem dX7_sets_2 : decode cX7_sets 2 = .ok (.iload_n 3, 1) := by decide +kernel
theorem dX7_sets_3 : decode cX7_sets 3 = .ok (.invokevirtual 149, 3) := by decide +kernel
theorem dX7_sets_6 : decode cX7_sets 6 = .ok (.ifCond .ne 5, 3) := by decide +kernel
theorem dX7_sets_9 : decode cX7_sets 9 = .ok (.iconst 0, 1) := by decide +kernel
theorem dX7_sets_10 : decode cX7_sets 10 = .ok (.ireturn, 1) := by decide +kernel
theorem dX7_sets_11 : decode cX7_sets 11 = .ok (.aload_n 0, 1) := by decide +kernel
theorem dX7_sets_12 : decode cX7_sets 12 = .ok (.getfield 13, 3) := by decide +kernel
theorem dX7_sets_15 : decode cX7_sets 15 = .ok (.iconst 4, 1) := by decide +kernel
theorem dX7_sets_16 : decode cX7_sets 16 = .ok (.iload_n 1, 1) := by decide +kernel
theorem dX7_sets_17 : decode cX7_sets 17 = .ok (.iadd, 1) := by decide +kernel
theorem dX7_sets_18 : decode cX7_sets 18 = .ok (.aload_n 0, 1) := by decide +kernel
theorem dX7_sets_19 : decode cX7_sets 19 = .ok (.getfield 129, 3) := by decide +kernel
theorem dX7_sets_22 : decode cX7_sets 22 = .ok (.iastore, 1) := by decide +kernel
theorem dX7_sets_23 : decode cX7_sets 23 = .ok (.iconst 1, 1) := by decide +kernel
theorem dX7_sets_24 : decode cX7_sets 24 = .ok (.ireturn, 1) := by decide +kernel
theorem dX7_closes_0 : decode cX7_closes 0 = .ok (.aload_n 0, 1) := by decide +kernel
theorem dX7_closes_1 : decode cX7_closes 1 = .ok (.iload_n 1, 1) := by decide +kernel
theorem dX7_closes_2 : decode cX7_closes 2 = .ok (.invokevirtual 152, 3) := by decide +kernel
theorem dX7_closes_5 : decode cX7_closes 5 = .ok (.ifCond .ne 9, 3) := by decide +kernel
theorem dX7_closes_8 : decode cX7_closes 8 = .ok (.aload_n 0, 1) := by decide +kernel
theorem dX7_closes_9 : decode cX7_closes 9 = .ok (.iconst 1, 1) := by decide +kernel
theorem dX7_closes_10 : decode cX7_closes 10 = .ok (.invokevirtual 126, 3) := by decide +kernel
theorem dX7_closes_13 : decode cX7_closes 13 = .ok (.ireturn, 1) := by decide +kernel
theorem dX7_closes_14 : decode cX7_closes 14 = .ok (.aload_n 0, 1) := by decide +kernel
theorem dX7_closes_15 : decode cX7_closes 15 = .ok (.invokevirtual 136, 3) := by decide +kernel
theorem dX7_closes_18 : decode cX7_closes 18 = .ok (.iconst 1, 1) := by decide +kernel
theorem dX7_closes_19 : decode cX7_closes 19 = .ok (.ireturn, 1) := by decide +kernel
theorem dX7_takesTwo_0 : decode cX7_takesTwo 0 = .ok (.aload_n 0, 1) := by decide +kernel
theorem dX7_takesTwo_1 : decode cX7_takesTwo 1 = .ok (.invokevirtual 136, 3) := by decide +kernel
theorem dX7_takesTwo_4 : decode cX7_takesTwo 4 = .ok (.aload_n 0, 1) := by decide +kernel
theorem dX7_takesTwo_5 : decode cX7_takesTwo 5 = .ok (.getfield 13, 3) := by decide +kernel
theorem dX7_takesTwo_8 : decode cX7_takesTwo 8 = .ok (.iconst 4, 1) := by decide +kernel
theorem dX7_takesTwo_9 : decode cX7_takesTwo 9 = .ok (.iaload, 1) := by decide +kernel
theorem dX7_takesTwo_10 : decode cX7_takesTwo 10 = .ok (.iconst 1, 1) := by decide +kernel
theorem dX7_takesTwo_11 : decode cX7_takesTwo 11 = .ok (.isub, 1) := by decide +kernel
theorem dX7_takesTwo_12 : decode cX7_takesTwo 12 = .ok (.istore_n 1, 1) := by decide +kernel
theorem dX7_takesTwo_13 : decode cX7_takesTwo 13 = .ok (.aload_n 0, 1) := by decide +kernel
theorem dX7_takesTwo_14 : decode cX7_takesTwo 14 = .ok (.iconst 0, 1) := by decide +kernel
theorem dX7_takesTwo_15 : decode cX7_takesTwo 15 = .ok (.iload_n 1, 1) := by decide +kernel
theorem dX7_takesTwo_16 : decode cX7_takesTwo 16 = .ok (.invokevirtual 149, 3) := by decide +kernel
theorem dX7_takesTwo_19 : decode cX7_takesTwo 19 = .ok (.ifCond .ne 5, 3) := by decide +kernel
theorem dX7_takesTwo_22 : decode cX7_takesTwo 22 = .ok (.iconst 0, 1) := by decide +kernel
theorem dX7_takesTwo_23 : decode cX7_takesTwo 23 = .ok (.ireturn, 1) := by decide +kernel
theorem dX7_takesTwo_24 : decode cX7_takesTwo 24 = .ok (.aload_n 0, 1) := by decide +kernel
theorem dX7_takesTwo_25 : decode cX7_takesTwo 25 = .ok (.aload_n 0, 1) := by decide +kernel
theorem dX7_takesTwo_26 : decode cX7_takesTwo 26 = .ok (.getfield 129, 3) := by decide +kernel
theorem dX7_takesTwo_29 : decode cX7_takesTwo 29 = .ok (.putfield 155, 3) := by decide +kernel
theorem dX7_takesTwo_32 : decode cX7_takesTwo 32 = .ok (.aload_n 0, 1) := by decide +kernel
theorem dX7_takesTwo_33 : decode cX7_takesTwo 33 = .ok (.iconst 0, 1) := by decide +kernel
theorem dX7_takesTwo_34 : decode cX7_takesTwo 34 = .ok (.iload_n 1, 1) := by decide +kernel
theorem dX7_takesTwo_35 : decode cX7_takesTwo 35 = .ok (.invokevirtual 132, 3) := by decide +kernel
theorem dX7_takesTwo_38 : decode cX7_takesTwo 38 = .ok (.ifCond .eq 27, 3) := by decide +kernel
theorem dX7_takesTwo_41 : decode cX7_takesTwo 41 = .ok (.aload_n 0, 1) := by decide +kernel
theorem dX7_takesTwo_42 : decode cX7_takesTwo 42 = .ok (.iconst 5, 1) := by decide +kernel
theorem dX7_takesTwo_43 : decode cX7_takesTwo 43 = .ok (.aload_n 0, 1) := by decide +kernel
theorem dX7_takesTwo_44 : decode cX7_takesTwo 44 = .ok (.getfield 129, 3) := by decide +kernel
theorem dX7_takesTwo_47 : decode cX7_takesTwo 47 = .ok (.aload_n 0, 1) := by decide +kernel
theorem dX7_takesTwo_48 : decode cX7_takesTwo 48 = .ok (.getfield 155, 3) := by decide +kernel
theorem dX7_takesTwo_51 : decode cX7_takesTwo 51 = .ok (.if_icmp .eq 7, 3) := by decide +kernel
theorem dX7_takesTwo_54 : decode cX7_takesTwo 54 = .ok (.iconst 1, 1) := by decide +kernel
theorem dX7_takesTwo_55 : decode cX7_takesTwo 55 = .ok (.goto 4, 3) := by decide +kernel
theorem dX7_takesTwo_58 : decode cX7_takesTwo 58 = .ok (.iconst 0, 1) := by decide +kernel
theorem dX7_takesTwo_59 : decode cX7_takesTwo 59 = .ok (.invokevirtual 145, 3) := by decide +kernel
theorem dX7_takesTwo_62 : decode cX7_takesTwo 62 = .ok (.ifCond .ne 5, 3) := by decide +kernel
theorem dX7_takesTwo_65 : decode cX7_takesTwo 65 = .ok (.iconst 0, 1) := by decide +kernel
theorem dX7_takesTwo_66 : decode cX7_takesTwo 66 = .ok (.ireturn, 1) := by decide +kernel
theorem dX7_takesTwo_67 : decode cX7_takesTwo 67 = .ok (.aload_n 0, 1) := by decide +kernel
theorem dX7_takesTwo_68 : decode cX7_takesTwo 68 = .ok (.aload_n 0, 1) := by decide +kernel
theorem dX7_takesTwo_69 : decode cX7_takesTwo 69 = .ok (.getfield 129, 3) := by decide +kernel
theorem dX7_takesTwo_72 : decode cX7_takesTwo 72 = .ok (.putfield 158, 3) := by decide +kernel
theorem dX7_takesTwo_75 : decode cX7_takesTwo 75 = .ok (.iconst 1, 1) := by decide +kernel
theorem dX7_takesTwo_76 : decode cX7_takesTwo 76 = .ok (.ireturn, 1) := by decide +kernel
theorem dX7_peerLine_0 : decode cX7_peerLine 0 = .ok (.aload_n 0, 1) := by decide +kernel
theorem dX7_peerLine_1 : decode cX7_peerLine 1 = .ok (.getfield 13, 3) := by decide +kernel
theorem dX7_peerLine_4 : decode cX7_peerLine 4 = .ok (.iconst 4, 1) := by decide +kernel
theorem dX7_peerLine_5 : decode cX7_peerLine 5 = .ok (.iaload, 1) := by decide +kernel
theorem dX7_peerLine_6 : decode cX7_peerLine 6 = .ok (.istore_n 1, 1) := by decide +kernel
theorem dX7_peerLine_7 : decode cX7_peerLine 7 = .ok (.aload_n 0, 1) := by decide +kernel
theorem dX7_peerLine_8 : decode cX7_peerLine 8 = .ok (.iconst 4, 1) := by decide +kernel
theorem dX7_peerLine_9 : decode cX7_peerLine 9 = .ok (.iload_n 1, 1) := by decide +kernel
theorem dX7_peerLine_10 : decode cX7_peerLine 10 = .ok (.bipush 8, 2) := by decide +kernel
theorem dX7_peerLine_12 : decode cX7_peerLine 12 = .ok (.if_icmp .ge 7, 3) := by decide +kernel
theorem dX7_peerLine_15 : decode cX7_peerLine 15 = .ok (.iconst 1, 1) := by decide +kernel
theorem dX7_peerLine_16 : decode cX7_peerLine 16 = .ok (.goto 4, 3) := by decide +kernel
theorem dX7_peerLine_19 : decode cX7_peerLine 19 = .ok (.iconst 0, 1) := by decide +kernel
theorem dX7_peerLine_20 : decode cX7_peerLine 20 = .ok (.invokevirtual 145, 3) := by decide +kernel
theorem dX7_peerLine_23 : decode cX7_peerLine 23 = .ok (.ifCond .eq 13, 3) := by decide +kernel
theorem dX7_peerLine_26 : decode cX7_peerLine 26 = .ok (.aload_n 0, 1) := by decide +kernel
theorem dX7_peerLine_27 : decode cX7_peerLine 27 = .ok (.iconst 0, 1) := by decide +kernel
theorem dX7_peerLine_28 : decode cX7_peerLine 28 = .ok (.bipush 9, 2) := by decide +kernel
theorem dX7_peerLine_30 : decode cX7_peerLine 30 = .ok (.invokevirtual 149, 3) := by decide +kernel
theorem dX7_peerLine_33 : decode cX7_peerLine 33 = .ok (.ifCond .ne 5, 3) := by decide +kernel
theorem dX7_peerLine_36 : decode cX7_peerLine 36 = .ok (.iconst 0, 1) := by decide +kernel
theorem dX7_peerLine_37 : decode cX7_peerLine 37 = .ok (.ireturn, 1) := by decide +kernel
theorem dX7_peerLine_38 : decode cX7_peerLine 38 = .ok (.aload_n 0, 1) := by decide +kernel
theorem dX7_peerLine_39 : decode cX7_peerLine 39 = .ok (.getfield 16, 3) := by decide +kernel
theorem dX7_peerLine_42 : decode cX7_peerLine 42 = .ok (.bipush 8, 2) := by decide +kernel
theorem dX7_peerLine_44 : decode cX7_peerLine 44 = .ok (.iload_n 1, 1) := by decide +kernel
theorem dX7_peerLine_45 : decode cX7_peerLine 45 = .ok (.iadd, 1) := by decide +kernel
theorem dX7_peerLine_46 : decode cX7_peerLine 46 = .ok (.aload_n 0, 1) := by decide +kernel
theorem dX7_peerLine_47 : decode cX7_peerLine 47 = .ok (.getfield 129, 3) := by decide +kernel
theorem dX7_peerLine_50 : decode cX7_peerLine 50 = .ok (.iastore, 1) := by decide +kernel
theorem dX7_peerLine_51 : decode cX7_peerLine 51 = .ok (.aload_n 0, 1) := by decide +kernel
theorem dX7_peerLine_52 : decode cX7_peerLine 52 = .ok (.iconst 0, 1) := by decide +kernel
theorem dX7_peerLine_53 : decode cX7_peerLine 53 = .ok (.bipush 9, 2) := by decide +kernel
theorem dX7_peerLine_55 : decode cX7_peerLine 55 = .ok (.invokevirtual 149, 3) := by decide +kernel
theorem dX7_peerLine_58 : decode cX7_peerLine 58 = .ok (.ifCond .ne 5, 3) := by decide +kernel
theorem dX7_peerLine_61 : decode cX7_peerLine 61 = .ok (.iconst 0, 1) := by decide +kernel
theorem dX7_peerLine_62 : decode cX7_peerLine 62 = .ok (.ireturn, 1) := by decide +kernel
theorem dX7_peerLine_63 : decode cX7_peerLine 63 = .ok (.aload_n 0, 1) := by decide +kernel
theorem dX7_peerLine_64 : decode cX7_peerLine 64 = .ok (.getfield 19, 3) := by decide +kernel
theorem dX7_peerLine_67 : decode cX7_peerLine 67 = .ok (.bipush 8, 2) := by decide +kernel
theorem dX7_peerLine_69 : decode cX7_peerLine 69 = .ok (.iload_n 1, 1) := by decide +kernel
theorem dX7_peerLine_70 : decode cX7_peerLine 70 = .ok (.iadd, 1) := by decide +kernel
theorem dX7_peerLine_71 : decode cX7_peerLine 71 = .ok (.aload_n 0, 1) := by decide +kernel
theorem dX7_peerLine_72 : decode cX7_peerLine 72 = .ok (.getfield 129, 3) := by decide +kernel
theorem dX7_peerLine_75 : decode cX7_peerLine 75 = .ok (.iastore, 1) := by decide +kernel
theorem dX7_peerLine_76 : decode cX7_peerLine 76 = .ok (.aload_n 0, 1) := by decide +kernel
theorem dX7_peerLine_77 : decode cX7_peerLine 77 = .ok (.getfield 13, 3) := by decide +kernel
theorem dX7_peerLine_80 : decode cX7_peerLine 80 = .ok (.iconst 4, 1) := by decide +kernel
theorem dX7_peerLine_81 : decode cX7_peerLine 81 = .ok (.dup2, 1) := by decide +kernel
theorem dX7_peerLine_82 : decode cX7_peerLine 82 = .ok (.iaload, 1) := by decide +kernel
theorem dX7_peerLine_83 : decode cX7_peerLine 83 = .ok (.iconst 1, 1) := by decide +kernel
theorem dX7_peerLine_84 : decode cX7_peerLine 84 = .ok (.iadd, 1) := by decide +kernel
theorem dX7_peerLine_85 : decode cX7_peerLine 85 = .ok (.iastore, 1) := by decide +kernel
theorem dX7_peerLine_86 : decode cX7_peerLine 86 = .ok (.iconst 1, 1) := by decide +kernel
theorem dX7_peerLine_87 : decode cX7_peerLine 87 = .ok (.ireturn, 1) := by decide +kernel
theorem dX7_statement_0 : decode cX7_statement 0 = .ok (.aload_n 0, 1) := by decide +kernel
theorem dX7_statement_1 : decode cX7_statement 1 = .ok (.ldc 161, 2) := by decide +kernel
theorem dX7_statement_3 : decode cX7_statement 3 = .ok (.invokevirtual 163, 3) := by decide +kernel
theorem dX7_statement_6 : decode cX7_statement 6 = .ok (.ifCond .eq 8, 3) := by decide +kernel
theorem dX7_statement_9 : decode cX7_statement 9 = .ok (.aload_n 0, 1) := by decide +kernel
theorem dX7_statement_10 : decode cX7_statement 10 = .ok (.invokevirtual 167, 3) := by decide +kernel
theorem dX7_statement_13 : decode cX7_statement 13 = .ok (.ireturn, 1) := by decide +kernel
theorem dX7_statement_14 : decode cX7_statement 14 = .ok (.aload_n 0, 1) := by decide +kernel
theorem dX7_statement_15 : decode cX7_statement 15 = .ok (.ldc 171, 2) := by decide +kernel
theorem dX7_statement_17 : decode cX7_statement 17 = .ok (.invokevirtual 163, 3) := by decide +kernel
theorem dX7_statement_20 : decode cX7_statement 20 = .ok (.ifCond .eq 72, 3) := by decide +kernel
theorem dX7_statement_23 : decode cX7_statement 23 = .ok (.aload_n 0, 1) := by decide +kernel
theorem dX7_statement_24 : decode cX7_statement 24 = .ok (.invokevirtual 173, 3) := by decide +kernel
theorem dX7_statement_27 : decode cX7_statement 27 = .ok (.ifCond .eq 13, 3) := by decide +kernel
theorem dX7_statement_30 : decode cX7_statement 30 = .ok (.aload_n 0, 1) := by decide +kernel
theorem dX7_statement_31 : decode cX7_statement 31 = .ok (.iconst 1, 1) := by decide +kernel
theorem dX7_statement_32 : decode cX7_statement 32 = .ok (.bipush 99, 2) := by decide +kernel
theorem dX7_statement_34 : decode cX7_statement 34 = .ok (.invokevirtual 149, 3) := by decide +kernel
theorem dX7_statement_37 : decode cX7_statement 37 = .ok (.ifCond .ne 5, 3) := by decide +kernel
theorem dX7_statement_40 : decode cX7_statement 40 = .ok (.iconst 0, 1) := by decide +kernel
theorem dX7_statement_41 : decode cX7_statement 41 = .ok (.ireturn, 1) := by decide +kernel
theorem dX7_statement_42 : decode cX7_statement 42 = .ok (.aload_n 0, 1) := by decide +kernel
theorem dX7_statement_43 : decode cX7_statement 43 = .ok (.getfield 22, 3) := by decide +kernel
theorem dX7_statement_46 : decode cX7_statement 46 = .ok (.bipush 64, 2) := by decide +kernel
theorem dX7_statement_48 : decode cX7_statement 48 = .ok (.bipush 8, 2) := by decide +kernel
theorem dX7_statement_50 : decode cX7_statement 50 = .ok (.aload_n 0, 1) := by decide +kernel
theorem dX7_statement_51 : decode cX7_statement 51 = .ok (.getfield 155, 3) := by decide +kernel
theorem dX7_statement_54 : decode cX7_statement 54 = .ok (.imul, 1) := by decide +kernel
theorem dX7_statement_55 : decode cX7_statement 55 = .ok (.iadd, 1) := by decide +kernel
theorem dX7_statement_56 : decode cX7_statement 56 = .ok (.aload_n 0, 1) := by decide +kernel
theorem dX7_statement_57 : decode cX7_statement 57 = .ok (.getfield 158, 3) := by decide +kernel
theorem dX7_statement_60 : decode cX7_statement 60 = .ok (.iadd, 1) := by decide +kernel
theorem dX7_statement_61 : decode cX7_statement 61 = .ok (.aload_n 0, 1) := by decide +kernel
theorem dX7_statement_62 : decode cX7_statement 62 = .ok (.getfield 129, 3) := by decide +kernel
theorem dX7_statement_65 : decode cX7_statement 65 = .ok (.iastore, 1) := by decide +kernel
theorem dX7_statement_66 : decode cX7_statement 66 = .ok (.aload_n 0, 1) := by decide +kernel
theorem dX7_statement_67 : decode cX7_statement 67 = .ok (.getfield 22, 3) := by decide +kernel
theorem dX7_statement_70 : decode cX7_statement 70 = .ok (.bipush 64, 2) := by decide +kernel
theorem dX7_statement_72 : decode cX7_statement 72 = .ok (.bipush 8, 2) := by decide +kernel
theorem dX7_statement_74 : decode cX7_statement 74 = .ok (.aload_n 0, 1) := by decide +kernel
theorem dX7_statement_75 : decode cX7_statement 75 = .ok (.getfield 158, 3) := by decide +kernel
theorem dX7_statement_78 : decode cX7_statement 78 = .ok (.imul, 1) := by decide +kernel
theorem dX7_statement_79 : decode cX7_statement 79 = .ok (.iadd, 1) := by decide +kernel
theorem dX7_statement_80 : decode cX7_statement 80 = .ok (.aload_n 0, 1) := by decide +kernel
theorem dX7_statement_81 : decode cX7_statement 81 = .ok (.getfield 155, 3) := by decide +kernel
theorem dX7_statement_84 : decode cX7_statement 84 = .ok (.iadd, 1) := by decide +kernel
theorem dX7_statement_85 : decode cX7_statement 85 = .ok (.aload_n 0, 1) := by decide +kernel
theorem dX7_statement_86 : decode cX7_statement 86 = .ok (.getfield 129, 3) := by decide +kernel
theorem dX7_statement_89 : decode cX7_statement 89 = .ok (.iastore, 1) := by decide +kernel
theorem dX7_statement_90 : decode cX7_statement 90 = .ok (.iconst 1, 1) := by decide +kernel
theorem dX7_statement_91 : decode cX7_statement 91 = .ok (.ireturn, 1) := by decide +kernel
theorem dX7_statement_92 : decode cX7_statement 92 = .ok (.aload_n 0, 1) := by decide +kernel
theorem dX7_statement_93 : decode cX7_statement 93 = .ok (.ldc 176, 2) := by decide +kernel
theorem dX7_statement_95 : decode cX7_statement 95 = .ok (.invokevirtual 163, 3) := by decide +kernel
theorem dX7_statement_98 : decode cX7_statement 98 = .ok (.ifCond .eq 56, 3) := by decide +kernel
theorem dX7_statement_101 : decode cX7_statement 101 = .ok (.aload_n 0, 1) := by decide +kernel
theorem dX7_statement_102 : decode cX7_statement 102 = .ok (.invokevirtual 173, 3) := by decide +kernel
theorem dX7_statement_105 : decode cX7_statement 105 = .ok (.ifCond .ne 5, 3) := by decide +kernel
theorem dX7_statement_108 : decode cX7_statement 108 = .ok (.iconst 0, 1) := by decide +kernel
theorem dX7_statement_109 : decode cX7_statement 109 = .ok (.ireturn, 1) := by decide +kernel
theorem dX7_statement_110 : decode cX7_statement 110 = .ok (.aload_n 0, 1) := by decide +kernel
theorem dX7_statement_111 : decode cX7_statement 111 = .ok (.getfield 25, 3) := by decide +kernel
theorem dX7_statement_114 : decode cX7_statement 114 = .ok (.bipush 8, 2) := by decide +kernel
theorem dX7_statement_116 : decode cX7_statement 116 = .ok (.aload_n 0, 1) := by decide +kernel
theorem dX7_statement_117 : decode cX7_statement 117 = .ok (.getfield 155, 3) := by decide +kernel
theorem dX7_statement_120 : decode cX7_statement 120 = .ok (.iadd, 1) := by decide +kernel
theorem dX7_statement_121 : decode cX7_statement 121 = .ok (.dup2, 1) := by decide +kernel
theorem dX7_statement_122 : decode cX7_statement 122 = .ok (.iaload, 1) := by decide +kernel
theorem dX7_statement_123 : decode cX7_statement 123 = .ok (.iconst 1, 1) := by decide +kernel
theorem dX7_statement_124 : decode cX7_statement 124 = .ok (.aload_n 0, 1) := by decide +kernel
theorem dX7_statement_125 : decode cX7_statement 125 = .ok (.getfield 158, 3) := by decide +kernel
theorem dX7_statement_128 : decode cX7_statement 128 = .ok (.ishl, 1) := by decide +kernel
theorem dX7_statement_129 : decode cX7_statement 129 = .ok (.ior, 1) := by decide +kernel
theorem dX7_statement_130 : decode cX7_statement 130 = .ok (.iastore, 1) := by decide +kernel
theorem dX7_statement_131 : decode cX7_statement 131 = .ok (.aload_n 0, 1) := by decide +kernel
theorem dX7_statement_132 : decode cX7_statement 132 = .ok (.getfield 25, 3) := by decide +kernel
theorem dX7_statement_135 : decode cX7_statement 135 = .ok (.bipush 8, 2) := by decide +kernel
theorem dX7_statement_137 : decode cX7_statement 137 = .ok (.aload_n 0, 1) := by decide +kernel
theorem dX7_statement_138 : decode cX7_statement 138 = .ok (.getfield 158, 3) := by decide +kernel
theorem dX7_statement_141 : decode cX7_statement 141 = .ok (.iadd, 1) := by decide +kernel
theorem dX7_statement_142 : decode cX7_statement 142 = .ok (.dup2, 1) := by decide +kernel
theorem dX7_statement_143 : decode cX7_statement 143 = .ok (.iaload, 1) := by decide +kernel
theorem dX7_statement_144 : decode cX7_statement 144 = .ok (.iconst 1, 1) := by decide +kernel
theorem dX7_statement_145 : decode cX7_statement 145 = .ok (.aload_n 0, 1) := by decide +kernel
theorem dX7_statement_146 : decode cX7_statement 146 = .ok (.getfield 155, 3) := by decide +kernel
theorem dX7_statement_149 : decode cX7_statement 149 = .ok (.ishl, 1) := by decide +kernel
theorem dX7_statement_150 : decode cX7_statement 150 = .ok (.ior, 1) := by decide +kernel
theorem dX7_statement_151 : decode cX7_statement 151 = .ok (.iastore, 1) := by decide +kernel
theorem dX7_statement_152 : decode cX7_statement 152 = .ok (.iconst 1, 1) := by decide +kernel
theorem dX7_statement_153 : decode cX7_statement 153 = .ok (.ireturn, 1) := by decide +kernel
theorem dX7_statement_154 : decode cX7_statement 154 = .ok (.aload_n 0, 1) := by decide +kernel
theorem dX7_statement_155 : decode cX7_statement 155 = .ok (.ldc 178, 2) := by decide +kernel
theorem dX7_statement_157 : decode cX7_statement 157 = .ok (.invokevirtual 163, 3) := by decide +kernel
theorem dX7_statement_160 : decode cX7_statement 160 = .ok (.ifCond .eq 39, 3) := by decide +kernel
theorem dX7_statement_163 : decode cX7_statement 163 = .ok (.aload_n 0, 1) := by decide +kernel
theorem dX7_statement_164 : decode cX7_statement 164 = .ok (.iconst 0, 1) := by decide +kernel
theorem dX7_statement_165 : decode cX7_statement 165 = .ok (.invokevirtual 180, 3) := by decide +kernel
theorem dX7_statement_168 : decode cX7_statement 168 = .ok (.ifCond .eq 29, 3) := by decide +kernel
theorem dX7_statement_171 : decode cX7_statement 171 = .ok (.aload_n 0, 1) := by decide +kernel
theorem dX7_statement_172 : decode cX7_statement 172 = .ok (.iconst 1, 1) := by decide +kernel
theorem dX7_statement_173 : decode cX7_statement 173 = .ok (.iconst 1, 1) := by decide +kernel
theorem dX7_statement_174 : decode cX7_statement 174 = .ok (.bipush 20, 2) := by decide +kernel
theorem dX7_statement_176 : decode cX7_statement 176 = .ok (.invokevirtual 183, 3) := by decide +kernel
theorem dX7_statement_179 : decode cX7_statement 179 = .ok (.ifCond .eq 18, 3) := by decide +kernel
theorem dX7_statement_182 : decode cX7_statement 182 = .ok (.aload_n 0, 1) := by decide +kernel
theorem dX7_statement_183 : decode cX7_statement 183 = .ok (.iconst 2, 1) := by decide +kernel
theorem dX7_statement_184 : decode cX7_statement 184 = .ok (.iconst 1, 1) := by decide +kernel
theorem dX7_statement_185 : decode cX7_statement 185 = .ok (.bipush 9, 2) := by decide +kernel
theorem dX7_statement_187 : decode cX7_statement 187 = .ok (.invokevirtual 183, 3) := by decide +kernel
theorem dX7_statement_190 : decode cX7_statement 190 = .ok (.ifCond .eq 7, 3) := by decide +kernel
theorem dX7_statement_193 : decode cX7_statement 193 = .ok (.iconst 1, 1) := by decide +kernel
theorem dX7_statement_194 : decode cX7_statement 194 = .ok (.goto 4, 3) := by decide +kernel
theorem dX7_statement_197 : decode cX7_statement 197 = .ok (.iconst 0, 1) := by decide +kernel
theorem dX7_statement_198 : decode cX7_statement 198 = .ok (.ireturn, 1) := by decide +kernel
theorem dX7_statement_199 : decode cX7_statement 199 = .ok (.aload_n 0, 1) := by decide +kernel
theorem dX7_statement_200 : decode cX7_statement 200 = .ok (.ldc 186, 2) := by decide +kernel
theorem dX7_statement_202 : decode cX7_statement 202 = .ok (.invokevirtual 163, 3) := by decide +kernel
theorem dX7_statement_205 : decode cX7_statement 205 = .ok (.ifCond .eq 28, 3) := by decide +kernel
theorem dX7_statement_208 : decode cX7_statement 208 = .ok (.aload_n 0, 1) := by decide +kernel
theorem dX7_statement_209 : decode cX7_statement 209 = .ok (.iconst 1, 1) := by decide +kernel
theorem dX7_statement_210 : decode cX7_statement 210 = .ok (.invokevirtual 180, 3) := by decide +kernel
theorem dX7_statement_213 : decode cX7_statement 213 = .ok (.ifCond .eq 18, 3) := by decide +kernel
theorem dX7_statement_216 : decode cX7_statement 216 = .ok (.aload_n 0, 1) := by decide +kernel
theorem dX7_statement_217 : decode cX7_statement 217 = .ok (.iconst 3, 1) := by decide +kernel
theorem dX7_statement_218 : decode cX7_statement 218 = .ok (.iconst 1, 1) := by decide +kernel
theorem dX7_statement_219 : decode cX7_statement 219 = .ok (.bipush 99, 2) := by decide +kernel
theorem dX7_statement_221 : decode cX7_statement 221 = .ok (.invokevirtual 183, 3) := by decide +kernel
theorem dX7_statement_224 : decode cX7_statement 224 = .ok (.ifCond .eq 7, 3) := by decide +kernel
theorem dX7_statement_227 : decode cX7_statement 227 = .ok (.iconst 1, 1) := by decide +kernel
theorem dX7_statement_228 : decode cX7_statement 228 = .ok (.goto 4, 3) := by decide +kernel
theorem dX7_statement_231 : decode cX7_statement 231 = .ok (.iconst 0, 1) := by decide +kernel
theorem dX7_statement_232 : decode cX7_statement 232 = .ok (.ireturn, 1) := by decide +kernel
theorem dX7_statement_233 : decode cX7_statement 233 = .ok (.aload_n 0, 1) := by decide +kernel
theorem dX7_statement_234 : decode cX7_statement 234 = .ok (.ldc 188, 2) := by decide +kernel
theorem dX7_statement_236 : decode cX7_statement 236 = .ok (.invokevirtual 163, 3) := by decide +kernel
theorem dX7_statement_239 : decode cX7_statement 239 = .ok (.ifCond .ne 9, 3) := by decide +kernel
theorem dX7_statement_242 : decode cX7_statement 242 = .ok (.aload_n 0, 1) := by decide +kernel
theorem dX7_statement_243 : decode cX7_statement 243 = .ok (.iconst 1, 1) := by decide +kernel
theorem dX7_statement_244 : decode cX7_statement 244 = .ok (.invokevirtual 126, 3) := by decide +kernel
theorem dX7_statement_247 : decode cX7_statement 247 = .ok (.ireturn, 1) := by decide +kernel
theorem dX7_statement_248 : decode cX7_statement 248 = .ok (.aload_n 0, 1) := by decide +kernel
theorem dX7_statement_249 : decode cX7_statement 249 = .ok (.getfield 28, 3) := by decide +kernel
theorem dX7_statement_252 : decode cX7_statement 252 = .ok (.iconst 1, 1) := by decide +kernel
theorem dX7_statement_253 : decode cX7_statement 253 = .ok (.iconst 0, 1) := by decide +kernel
theorem dX7_statement_254 : decode cX7_statement 254 = .ok (.iastore, 1) := by decide +kernel
theorem dX7_statement_255 : decode cX7_statement 255 = .ok (.aload_n 0, 1) := by decide +kernel
theorem dX7_statement_256 : decode cX7_statement 256 = .ok (.iconst 0, 1) := by decide +kernel
theorem dX7_statement_257 : decode cX7_statement 257 = .ok (.putfield 190, 3) := by decide +kernel
theorem dX7_statement_260 : decode cX7_statement 260 = .ok (.aload_n 0, 1) := by decide +kernel
theorem dX7_statement_261 : decode cX7_statement 261 = .ok (.iconst 2, 1) := by decide +kernel
theorem dX7_statement_262 : decode cX7_statement 262 = .ok (.invokevirtual 180, 3) := by decide +kernel
theorem dX7_statement_265 : decode cX7_statement 265 = .ok (.ifCond .eq 14, 3) := by decide +kernel
theorem dX7_statement_268 : decode cX7_statement 268 = .ok (.aload_n 0, 1) := by decide +kernel
theorem dX7_statement_269 : decode cX7_statement 269 = .ok (.invokevirtual 193, 3) := by decide +kernel
theorem dX7_statement_272 : decode cX7_statement 272 = .ok (.ifCond .eq 7, 3) := by decide +kernel
theorem dX7_statement_275 : decode cX7_statement 275 = .ok (.iconst 1, 1) := by decide +kernel
theorem dX7_statement_276 : decode cX7_statement 276 = .ok (.goto 4, 3) := by decide +kernel
theorem dX7_statement_279 : decode cX7_statement 279 = .ok (.iconst 0, 1) := by decide +kernel
theorem dX7_statement_280 : decode cX7_statement 280 = .ok (.ireturn, 1) := by decide +kernel
theorem dX7_emit_0 : decode cX7_emit 0 = .ok (.aload_n 0, 1) := by decide +kernel
theorem dX7_emit_1 : decode cX7_emit 1 = .ok (.getfield 31, 3) := by decide +kernel
theorem dX7_emit_4 : decode cX7_emit 4 = .ok (.sipush 620, 3) := by decide +kernel
theorem dX7_emit_7 : decode cX7_emit 7 = .ok (.aload_n 0, 1) := by decide +kernel
theorem dX7_emit_8 : decode cX7_emit 8 = .ok (.getfield 28, 3) := by decide +kernel
theorem dX7_emit_11 : decode cX7_emit 11 = .ok (.iconst 1, 1) := by decide +kernel
theorem dX7_emit_12 : decode cX7_emit 12 = .ok (.iaload, 1) := by decide +kernel
theorem dX7_emit_13 : decode cX7_emit 13 = .ok (.iadd, 1) := by decide +kernel
theorem dX7_emit_14 : decode cX7_emit 14 = .ok (.iload_n 1, 1) := by decide +kernel
theorem dX7_emit_15 : decode cX7_emit 15 = .ok (.iastore, 1) := by decide +kernel
theorem dX7_emit_16 : decode cX7_emit 16 = .ok (.aload_n 0, 1) := by decide +kernel
theorem dX7_emit_17 : decode cX7_emit 17 = .ok (.getfield 28, 3) := by decide +kernel
theorem dX7_emit_20 : decode cX7_emit 20 = .ok (.iconst 1, 1) := by decide +kernel
theorem dX7_emit_21 : decode cX7_emit 21 = .ok (.dup2, 1) := by decide +kernel
theorem dX7_emit_22 : decode cX7_emit 22 = .ok (.iaload, 1) := by decide +kernel
theorem dX7_emit_23 : decode cX7_emit 23 = .ok (.iconst 1, 1) := by decide +kernel
theorem dX7_emit_24 : decode cX7_emit 24 = .ok (.iadd, 1) := by decide +kernel
theorem dX7_emit_25 : decode cX7_emit 25 = .ok (.iastore, 1) := by decide +kernel
theorem dX7_emit_26 : decode cX7_emit 26 = .ok (.iconst 1, 1) := by decide +kernel
theorem dX7_emit_27 : decode cX7_emit 27 = .ok (.ireturn, 1) := by decide +kernel
theorem dX7_sum_0 : decode cX7_sum 0 = .ok (.aload_n 0, 1) := by decide +kernel
theorem dX7_sum_1 : decode cX7_sum 1 = .ok (.invokevirtual 196, 3) := by decide +kernel
theorem dX7_sum_4 : decode cX7_sum 4 = .ok (.ifCond .ne 5, 3) := by decide +kernel
theorem dX7_sum_7 : decode cX7_sum 7 = .ok (.iconst 0, 1) := by decide +kernel
theorem dX7_sum_8 : decode cX7_sum 8 = .ok (.ireturn, 1) := by decide +kernel
theorem dX7_sum_9 : decode cX7_sum 9 = .ok (.aload_n 0, 1) := by decide +kernel
theorem dX7_sum_10 : decode cX7_sum 10 = .ok (.bipush 43, 2) := by decide +kernel
theorem dX7_sum_12 : decode cX7_sum 12 = .ok (.invokevirtual 152, 3) := by decide +kernel
theorem dX7_sum_15 : decode cX7_sum 15 = .ok (.ifCond .ne 12, 3) := by decide +kernel
theorem dX7_sum_18 : decode cX7_sum 18 = .ok (.aload_n 0, 1) := by decide +kernel
theorem dX7_sum_19 : decode cX7_sum 19 = .ok (.bipush 45, 2) := by decide +kernel
theorem dX7_sum_21 : decode cX7_sum 21 = .ok (.invokevirtual 152, 3) := by decide +kernel
theorem dX7_sum_24 : decode cX7_sum 24 = .ok (.ifCond .eq 41, 3) := by decide +kernel
theorem dX7_sum_27 : decode cX7_sum 27 = .ok (.aload_n 0, 1) := by decide +kernel
theorem dX7_sum_28 : decode cX7_sum 28 = .ok (.getfield 101, 3) := by decide +kernel
theorem dX7_sum_31 : decode cX7_sum 31 = .ok (.bipush 43, 2) := by decide +kernel
theorem dX7_sum_33 : decode cX7_sum 33 = .ok (.if_icmp .ne 7, 3) := by decide +kernel
theorem dX7_sum_36 : decode cX7_sum 36 = .ok (.iconst (-1), 1) := by decide +kernel
theorem dX7_sum_37 : decode cX7_sum 37 = .ok (.goto 5, 3) := by decide +kernel
theorem dX7_sum_40 : decode cX7_sum 40 = .ok (.bipush (-2), 2) := by decide +kernel
theorem dX7_sum_42 : decode cX7_sum 42 = .ok (.istore_n 1, 1) := by decide +kernel
theorem dX7_sum_43 : decode cX7_sum 43 = .ok (.aload_n 0, 1) := by decide +kernel
theorem dX7_sum_44 : decode cX7_sum 44 = .ok (.invokevirtual 136, 3) := by decide +kernel
theorem dX7_sum_47 : decode cX7_sum 47 = .ok (.aload_n 0, 1) := by decide +kernel
theorem dX7_sum_48 : decode cX7_sum 48 = .ok (.invokevirtual 196, 3) := by decide +kernel
theorem dX7_sum_51 : decode cX7_sum 51 = .ok (.ifCond .ne 5, 3) := by decide +kernel
theorem dX7_sum_54 : decode cX7_sum 54 = .ok (.iconst 0, 1) := by decide +kernel
theorem dX7_sum_55 : decode cX7_sum 55 = .ok (.ireturn, 1) := by decide +kernel
theorem dX7_sum_56 : decode cX7_sum 56 = .ok (.aload_n 0, 1) := by decide +kernel
theorem dX7_sum_57 : decode cX7_sum 57 = .ok (.iload_n 1, 1) := by decide +kernel
theorem dX7_sum_58 : decode cX7_sum 58 = .ok (.invokevirtual 77, 3) := by decide +kernel
theorem dX7_sum_61 : decode cX7_sum 61 = .ok (.pop, 1) := by decide +kernel
theorem dX7_sum_62 : decode cX7_sum 62 = .ok (.goto (-53), 3) := by decide +kernel
theorem dX7_sum_65 : decode cX7_sum 65 = .ok (.iconst 1, 1) := by decide +kernel
theorem dX7_sum_66 : decode cX7_sum 66 = .ok (.ireturn, 1) := by decide +kernel
theorem dX7_term_0 : decode cX7_term 0 = .ok (.aload_n 0, 1) := by decide +kernel
theorem dX7_term_1 : decode cX7_term 1 = .ok (.invokevirtual 199, 3) := by decide +kernel
theorem dX7_term_4 : decode cX7_term 4 = .ok (.ifCond .ne 5, 3) := by decide +kernel
theorem dX7_term_7 : decode cX7_term 7 = .ok (.iconst 0, 1) := by decide +kernel
theorem dX7_term_8 : decode cX7_term 8 = .ok (.ireturn, 1) := by decide +kernel
theorem dX7_term_9 : decode cX7_term 9 = .ok (.aload_n 0, 1) := by decide +kernel
theorem dX7_term_10 : decode cX7_term 10 = .ok (.bipush 42, 2) := by decide +kernel
theorem dX7_term_12 : decode cX7_term 12 = .ok (.invokevirtual 152, 3) := by decide +kernel
theorem dX7_term_15 : decode cX7_term 15 = .ok (.ifCond .ne 12, 3) := by decide +kernel
theorem dX7_term_18 : decode cX7_term 18 = .ok (.aload_n 0, 1) := by decide +kernel
theorem dX7_term_19 : decode cX7_term 19 = .ok (.bipush 47, 2) := by decide +kernel
theorem dX7_term_21 : decode cX7_term 21 = .ok (.invokevirtual 152, 3) := by decide +kernel
theorem dX7_term_24 : decode cX7_term 24 = .ok (.ifCond .eq 42, 3) := by decide +kernel
theorem dX7_term_27 : decode cX7_term 27 = .ok (.aload_n 0, 1) := by decide +kernel
theorem dX7_term_28 : decode cX7_term 28 = .ok (.getfield 101, 3) := by decide +kernel
theorem dX7_term_31 : decode cX7_term 31 = .ok (.bipush 42, 2) := by decide +kernel
theorem dX7_term_33 : decode cX7_term 33 = .ok (.if_icmp .ne 8, 3) := by decide +kernel
theorem dX7_term_36 : decode cX7_term 36 = .ok (.bipush (-3), 2) := by decide +kernel
theorem dX7_term_38 : decode cX7_term 38 = .ok (.goto 5, 3) := by decide +kernel
theorem dX7_term_41 : decode cX7_term 41 = .ok (.bipush (-4), 2) := by decide +kernel
theorem dX7_term_43 : decode cX7_term 43 = .ok (.istore_n 1, 1) := by decide +kernel
theorem dX7_term_44 : decode cX7_term 44 = .ok (.aload_n 0, 1) := by decide +kernel
theorem dX7_term_45 : decode cX7_term 45 = .ok (.invokevirtual 136, 3) := by decide +kernel
theorem dX7_term_48 : decode cX7_term 48 = .ok (.aload_n 0, 1) := by decide +kernel
theorem dX7_term_49 : decode cX7_term 49 = .ok (.invokevirtual 199, 3) := by decide +kernel
theorem dX7_term_52 : decode cX7_term 52 = .ok (.ifCond .ne 5, 3) := by decide +kernel
theorem dX7_term_55 : decode cX7_term 55 = .ok (.iconst 0, 1) := by decide +kernel
theorem dX7_term_56 : decode cX7_term 56 = .ok (.ireturn, 1) := by decide +kernel
theorem dX7_term_57 : decode cX7_term 57 = .ok (.aload_n 0, 1) := by decide +kernel
theorem dX7_term_58 : decode cX7_term 58 = .ok (.iload_n 1, 1) := by decide +kernel
theorem dX7_term_59 : decode cX7_term 59 = .ok (.invokevirtual 77, 3) := by decide +kernel
theorem dX7_term_62 : decode cX7_term 62 = .ok (.pop, 1) := by decide +kernel
theorem dX7_term_63 : decode cX7_term 63 = .ok (.goto (-54), 3) := by decide +kernel
theorem dX7_term_66 : decode cX7_term 66 = .ok (.iconst 1, 1) := by decide +kernel
theorem dX7_term_67 : decode cX7_term 67 = .ok (.ireturn, 1) := by decide +kernel
theorem dX7_nameHere_0 : decode cX7_nameHere 0 = .ok (.aload_n 0, 1) := by decide +kernel
theorem dX7_nameHere_1 : decode cX7_nameHere 1 = .ok (.ldc 202, 2) := by decide +kernel
theorem dX7_nameHere_3 : decode cX7_nameHere 3 = .ok (.invokevirtual 163, 3) := by decide +kernel
theorem dX7_nameHere_6 : decode cX7_nameHere 6 = .ok (.ifCond .eq 5, 3) := by decide +kernel
theorem dX7_nameHere_9 : decode cX7_nameHere 9 = .ok (.iconst 1, 1) := by decide +kernel
theorem dX7_nameHere_10 : decode cX7_nameHere 10 = .ok (.ireturn, 1) := by decide +kernel
theorem dX7_nameHere_11 : decode cX7_nameHere 11 = .ok (.aload_n 0, 1) := by decide +kernel
theorem dX7_nameHere_12 : decode cX7_nameHere 12 = .ok (.ldc 204, 2) := by decide +kernel
theorem dX7_nameHere_14 : decode cX7_nameHere 14 = .ok (.invokevirtual 163, 3) := by decide +kernel
theorem dX7_nameHere_17 : decode cX7_nameHere 17 = .ok (.ifCond .eq 5, 3) := by decide +kernel
theorem dX7_nameHere_20 : decode cX7_nameHere 20 = .ok (.iconst 2, 1) := by decide +kernel
theorem dX7_nameHere_21 : decode cX7_nameHere 21 = .ok (.ireturn, 1) := by decide +kernel
theorem dX7_nameHere_22 : decode cX7_nameHere 22 = .ok (.aload_n 0, 1) := by decide +kernel
theorem dX7_nameHere_23 : decode cX7_nameHere 23 = .ok (.ldc 206, 2) := by decide +kernel
theorem dX7_nameHere_25 : decode cX7_nameHere 25 = .ok (.invokevirtual 163, 3) := by decide +kernel
theorem dX7_nameHere_28 : decode cX7_nameHere 28 = .ok (.ifCond .eq 7, 3) := by decide +kernel
theorem dX7_nameHere_31 : decode cX7_nameHere 31 = .ok (.iconst 3, 1) := by decide +kernel
theorem dX7_nameHere_32 : decode cX7_nameHere 32 = .ok (.goto 30, 3) := by decide +kernel
theorem dX7_nameHere_35 : decode cX7_nameHere 35 = .ok (.aload_n 0, 1) := by decide +kernel
theorem dX7_nameHere_36 : decode cX7_nameHere 36 = .ok (.ldc 208, 2) := by decide +kernel
theorem dX7_nameHere_38 : decode cX7_nameHere 38 = .ok (.invokevirtual 163, 3) := by decide +kernel
theorem dX7_nameHere_41 : decode cX7_nameHere 41 = .ok (.ifCond .eq 7, 3) := by decide +kernel
theorem dX7_nameHere_44 : decode cX7_nameHere 44 = .ok (.iconst 4, 1) := by decide +kernel
theorem dX7_nameHere_45 : decode cX7_nameHere 45 = .ok (.goto 17, 3) := by decide +kernel
theorem dX7_nameHere_48 : decode cX7_nameHere 48 = .ok (.aload_n 0, 1) := by decide +kernel
theorem dX7_nameHere_49 : decode cX7_nameHere 49 = .ok (.ldc 209, 2) := by decide +kernel
theorem dX7_nameHere_51 : decode cX7_nameHere 51 = .ok (.invokevirtual 163, 3) := by decide +kernel
theorem dX7_nameHere_54 : decode cX7_nameHere 54 = .ok (.ifCond .eq 7, 3) := by decide +kernel
theorem dX7_nameHere_57 : decode cX7_nameHere 57 = .ok (.iconst 5, 1) := by decide +kernel
theorem dX7_nameHere_58 : decode cX7_nameHere 58 = .ok (.goto 4, 3) := by decide +kernel
theorem dX7_nameHere_61 : decode cX7_nameHere 61 = .ok (.iconst 0, 1) := by decide +kernel
theorem dX7_nameHere_62 : decode cX7_nameHere 62 = .ok (.ireturn, 1) := by decide +kernel
theorem dX7_factor_0 : decode cX7_factor 0 = .ok (.aload_n 0, 1) := by decide +kernel
theorem dX7_factor_1 : decode cX7_factor 1 = .ok (.bipush 40, 2) := by decide +kernel
theorem dX7_factor_3 : decode cX7_factor 3 = .ok (.invokevirtual 152, 3) := by decide +kernel
theorem dX7_factor_6 : decode cX7_factor 6 = .ok (.ifCond .eq 70, 3) := by decide +kernel
theorem dX7_factor_9 : decode cX7_factor 9 = .ok (.aload_n 0, 1) := by decide +kernel
theorem dX7_factor_10 : decode cX7_factor 10 = .ok (.iconst 4, 1) := by decide +kernel
theorem dX7_factor_11 : decode cX7_factor 11 = .ok (.aload_n 0, 1) := by decide +kernel
theorem dX7_factor_12 : decode cX7_factor 12 = .ok (.getfield 190, 3) := by decide +kernel
theorem dX7_factor_15 : decode cX7_factor 15 = .ok (.iconst 5, 1) := by decide +kernel
theorem dX7_factor_16 : decode cX7_factor 16 = .ok (.if_icmp .ge 7, 3) := by decide +kernel
theorem dX7_factor_19 : decode cX7_factor 19 = .ok (.iconst 1, 1) := by decide +kernel
theorem dX7_factor_20 : decode cX7_factor 20 = .ok (.goto 4, 3) := by decide +kernel
theorem dX7_factor_23 : decode cX7_factor 23 = .ok (.iconst 0, 1) := by decide +kernel
theorem dX7_factor_24 : decode cX7_factor 24 = .ok (.invokevirtual 145, 3) := by decide +kernel
theorem dX7_factor_27 : decode cX7_factor 27 = .ok (.ifCond .ne 5, 3) := by decide +kernel
theorem dX7_factor_30 : decode cX7_factor 30 = .ok (.iconst 0, 1) := by decide +kernel
theorem dX7_factor_31 : decode cX7_factor 31 = .ok (.ireturn, 1) := by decide +kernel
theorem dX7_factor_32 : decode cX7_factor 32 = .ok (.aload_n 0, 1) := by decide +kernel
theorem dX7_factor_33 : decode cX7_factor 33 = .ok (.dup, 1) := by decide +kernel
theorem dX7_factor_34 : decode cX7_factor 34 = .ok (.getfield 190, 3) := by decide +kernel
theorem dX7_factor_37 : decode cX7_factor 37 = .ok (.iconst 1, 1) := by decide +kernel
theorem dX7_factor_38 : decode cX7_factor 38 = .ok (.iadd, 1) := by decide +kernel
theorem dX7_factor_39 : decode cX7_factor 39 = .ok (.putfield 190, 3) := by decide +kernel
theorem dX7_factor_42 : decode cX7_factor 42 = .ok (.aload_n 0, 1) := by decide +kernel
theorem dX7_factor_43 : decode cX7_factor 43 = .ok (.invokevirtual 193, 3) := by decide +kernel
theorem dX7_factor_46 : decode cX7_factor 46 = .ok (.ifCond .eq 16, 3) := by decide +kernel
theorem dX7_factor_49 : decode cX7_factor 49 = .ok (.aload_n 0, 1) := by decide +kernel
theorem dX7_factor_50 : decode cX7_factor 50 = .ok (.bipush 41, 2) := by decide +kernel
theorem dX7_factor_52 : decode cX7_factor 52 = .ok (.invokevirtual 211, 3) := by decide +kernel
theorem dX7_factor_55 : decode cX7_factor 55 = .ok (.ifCond .eq 7, 3) := by decide +kernel
theorem dX7_factor_58 : decode cX7_factor 58 = .ok (.iconst 1, 1) := by decide +kernel
theorem dX7_factor_59 : decode cX7_factor 59 = .ok (.goto 4, 3) := by decide +kernel
theorem dX7_factor_62 : decode cX7_factor 62 = .ok (.iconst 0, 1) := by decide +kernel
theorem dX7_factor_63 : decode cX7_factor 63 = .ok (.istore_n 1, 1) := by decide +kernel
theorem dX7_factor_64 : decode cX7_factor 64 = .ok (.aload_n 0, 1) := by decide +kernel
theorem dX7_factor_65 : decode cX7_factor 65 = .ok (.dup, 1) := by decide +kernel
theorem dX7_factor_66 : decode cX7_factor 66 = .ok (.getfield 190, 3) := by decide +kernel
theorem dX7_factor_69 : decode cX7_factor 69 = .ok (.iconst 1, 1) := by decide +kernel
theorem dX7_factor_70 : decode cX7_factor 70 = .ok (.isub, 1) := by decide +kernel
theorem dX7_factor_71 : decode cX7_factor 71 = .ok (.putfield 190, 3) := by decide +kernel
theorem dX7_factor_74 : decode cX7_factor 74 = .ok (.iload_n 1, 1) := by decide +kernel
theorem dX7_factor_75 : decode cX7_factor 75 = .ok (.ireturn, 1) := by decide +kernel
theorem dX7_factor_76 : decode cX7_factor 76 = .ok (.aload_n 0, 1) := by decide +kernel
theorem dX7_factor_77 : decode cX7_factor 77 = .ok (.getfield 104, 3) := by decide +kernel
theorem dX7_factor_80 : decode cX7_factor 80 = .ok (.iconst 2, 1) := by decide +kernel
theorem dX7_factor_81 : decode cX7_factor 81 = .ok (.if_icmp .ne 13, 3) := by decide +kernel
theorem dX7_factor_84 : decode cX7_factor 84 = .ok (.bipush 100, 2) := by decide +kernel
theorem dX7_factor_86 : decode cX7_factor 86 = .ok (.aload_n 0, 1) := by decide +kernel
theorem dX7_factor_87 : decode cX7_factor 87 = .ok (.getfield 101, 3) := by decide +kernel
theorem dX7_factor_90 : decode cX7_factor 90 = .ok (.iadd, 1) := by decide +kernel
theorem dX7_factor_91 : decode cX7_factor 91 = .ok (.goto 7, 3) := by decide +kernel
theorem dX7_factor_94 : decode cX7_factor 94 = .ok (.aload_n 0, 1) := by decide +kernel
theorem dX7_factor_95 : decode cX7_factor 95 = .ok (.invokevirtual 214, 3) := by decide +kernel
theorem dX7_factor_98 : decode cX7_factor 98 = .ok (.istore_n 1, 1) := by decide +kernel
theorem dX7_factor_99 : decode cX7_factor 99 = .ok (.iload_n 1, 1) := by decide +kernel
theorem dX7_factor_100 : decode cX7_factor 100 = .ok (.ifCond .ne 9, 3) := by decide +kernel
theorem dX7_factor_103 : decode cX7_factor 103 = .ok (.aload_n 0, 1) := by decide +kernel
theorem dX7_factor_104 : decode cX7_factor 104 = .ok (.iconst 1, 1) := by decide +kernel
theorem dX7_factor_105 : decode cX7_factor 105 = .ok (.invokevirtual 126, 3) := by decide +kernel
theorem dX7_factor_108 : decode cX7_factor 108 = .ok (.ireturn, 1) := by decide +kernel
theorem dX7_factor_109 : decode cX7_factor 109 = .ok (.aload_n 0, 1) := by decide +kernel
theorem dX7_factor_110 : decode cX7_factor 110 = .ok (.invokevirtual 136, 3) := by decide +kernel
theorem dX7_factor_113 : decode cX7_factor 113 = .ok (.aload_n 0, 1) := by decide +kernel
theorem dX7_factor_114 : decode cX7_factor 114 = .ok (.iload_n 1, 1) := by decide +kernel
theorem dX7_factor_115 : decode cX7_factor 115 = .ok (.invokevirtual 77, 3) := by decide +kernel
theorem dX7_factor_118 : decode cX7_factor 118 = .ok (.ireturn, 1) := by decide +kernel
theorem dX7_scoreOf_0 : decode cX7_scoreOf 0 = .ok (.aload_n 0, 1) := by decide +kernel
theorem dX7_scoreOf_1 : decode cX7_scoreOf 1 = .ok (.getfield 45, 3) := by decide +kernel
theorem dX7_scoreOf_4 : decode cX7_scoreOf 4 = .ok (.iconst 1, 1) := by decide +kernel
theorem dX7_scoreOf_5 : decode cX7_scoreOf 5 = .ok (.aload_n 0, 1) := by decide +kernel
theorem dX7_scoreOf_6 : decode cX7_scoreOf 6 = .ok (.getfield 22, 3) := by decide +kernel
theorem dX7_scoreOf_9 : decode cX7_scoreOf 9 = .ok (.bipush 8, 2) := by decide +kernel
theorem dX7_scoreOf_11 : decode cX7_scoreOf 11 = .ok (.iload_n 2, 1) := by decide +kernel
theorem dX7_scoreOf_12 : decode cX7_scoreOf 12 = .ok (.imul, 1) := by decide +kernel
theorem dX7_scoreOf_13 : decode cX7_scoreOf 13 = .ok (.iload_n 1, 1) := by decide +kernel
theorem dX7_scoreOf_14 : decode cX7_scoreOf 14 = .ok (.iadd, 1) := by decide +kernel
theorem dX7_scoreOf_15 : decode cX7_scoreOf 15 = .ok (.iaload, 1) := by decide +kernel
theorem dX7_scoreOf_16 : decode cX7_scoreOf 16 = .ok (.iastore, 1) := by decide +kernel
theorem dX7_scoreOf_17 : decode cX7_scoreOf 17 = .ok (.aload_n 0, 1) := by decide +kernel
theorem dX7_scoreOf_18 : decode cX7_scoreOf 18 = .ok (.getfield 45, 3) := by decide +kernel
theorem dX7_scoreOf_21 : decode cX7_scoreOf 21 = .ok (.iconst 2, 1) := by decide +kernel
theorem dX7_scoreOf_22 : decode cX7_scoreOf 22 = .ok (.aload_n 0, 1) := by decide +kernel
theorem dX7_scoreOf_23 : decode cX7_scoreOf 23 = .ok (.getfield 22, 3) := by decide +kernel
theorem dX7_scoreOf_26 : decode cX7_scoreOf 26 = .ok (.bipush 8, 2) := by decide +kernel
theorem dX7_scoreOf_28 : decode cX7_scoreOf 28 = .ok (.iload_n 1, 1) := by decide +kernel
theorem dX7_scoreOf_29 : decode cX7_scoreOf 29 = .ok (.imul, 1) := by decide +kernel
theorem dX7_scoreOf_30 : decode cX7_scoreOf 30 = .ok (.iload_n 3, 1) := by decide +kernel
theorem dX7_scoreOf_31 : decode cX7_scoreOf 31 = .ok (.iadd, 1) := by decide +kernel
theorem dX7_scoreOf_32 : decode cX7_scoreOf 32 = .ok (.iaload, 1) := by decide +kernel
theorem dX7_scoreOf_33 : decode cX7_scoreOf 33 = .ok (.iastore, 1) := by decide +kernel
theorem dX7_scoreOf_34 : decode cX7_scoreOf 34 = .ok (.aload_n 0, 1) := by decide +kernel
theorem dX7_scoreOf_35 : decode cX7_scoreOf 35 = .ok (.getfield 45, 3) := by decide +kernel
theorem dX7_scoreOf_38 : decode cX7_scoreOf 38 = .ok (.iconst 3, 1) := by decide +kernel
theorem dX7_scoreOf_39 : decode cX7_scoreOf 39 = .ok (.aload_n 0, 1) := by decide +kernel
theorem dX7_scoreOf_40 : decode cX7_scoreOf 40 = .ok (.iload_n 1, 1) := by decide +kernel
theorem dX7_scoreOf_41 : decode cX7_scoreOf 41 = .ok (.invokevirtual 217, 3) := by decide +kernel
theorem dX7_scoreOf_44 : decode cX7_scoreOf 44 = .ok (.iastore, 1) := by decide +kernel
theorem dX7_scoreOf_45 : decode cX7_scoreOf 45 = .ok (.aload_n 0, 1) := by decide +kernel
theorem dX7_scoreOf_46 : decode cX7_scoreOf 46 = .ok (.getfield 45, 3) := by decide +kernel
theorem dX7_scoreOf_49 : decode cX7_scoreOf 49 = .ok (.iconst 4, 1) := by decide +kernel
theorem dX7_scoreOf_50 : decode cX7_scoreOf 50 = .ok (.aload_n 0, 1) := by decide +kernel
theorem dX7_scoreOf_51 : decode cX7_scoreOf 51 = .ok (.getfield 16, 3) := by decide +kernel
theorem dX7_scoreOf_54 : decode cX7_scoreOf 54 = .ok (.iload_n 1, 1) := by decide +kernel
theorem dX7_scoreOf_55 : decode cX7_scoreOf 55 = .ok (.iaload, 1) := by decide +kernel
theorem dX7_scoreOf_56 : decode cX7_scoreOf 56 = .ok (.iastore, 1) := by decide +kernel
theorem dX7_scoreOf_57 : decode cX7_scoreOf 57 = .ok (.aload_n 0, 1) := by decide +kernel
theorem dX7_scoreOf_58 : decode cX7_scoreOf 58 = .ok (.getfield 45, 3) := by decide +kernel
theorem dX7_scoreOf_61 : decode cX7_scoreOf 61 = .ok (.iconst 5, 1) := by decide +kernel
theorem dX7_scoreOf_62 : decode cX7_scoreOf 62 = .ok (.aload_n 0, 1) := by decide +kernel
theorem dX7_scoreOf_63 : decode cX7_scoreOf 63 = .ok (.getfield 19, 3) := by decide +kernel
theorem dX7_scoreOf_66 : decode cX7_scoreOf 66 = .ok (.iload_n 2, 1) := by decide +kernel
theorem dX7_scoreOf_67 : decode cX7_scoreOf 67 = .ok (.iaload, 1) := by decide +kernel
theorem dX7_scoreOf_68 : decode cX7_scoreOf 68 = .ok (.aload_n 0, 1) := by decide +kernel
theorem dX7_scoreOf_69 : decode cX7_scoreOf 69 = .ok (.getfield 19, 3) := by decide +kernel
theorem dX7_scoreOf_72 : decode cX7_scoreOf 72 = .ok (.iload_n 1, 1) := by decide +kernel
theorem dX7_scoreOf_73 : decode cX7_scoreOf 73 = .ok (.iaload, 1) := by decide +kernel
theorem dX7_scoreOf_74 : decode cX7_scoreOf 74 = .ok (.if_icmp .eq 7, 3) := by decide +kernel
theorem dX7_scoreOf_77 : decode cX7_scoreOf 77 = .ok (.iconst 1, 1) := by decide +kernel
theorem dX7_scoreOf_78 : decode cX7_scoreOf 78 = .ok (.goto 4, 3) := by decide +kernel
theorem dX7_scoreOf_81 : decode cX7_scoreOf 81 = .ok (.iconst 0, 1) := by decide +kernel
theorem dX7_scoreOf_82 : decode cX7_scoreOf 82 = .ok (.aload_n 0, 1) := by decide +kernel
theorem dX7_scoreOf_83 : decode cX7_scoreOf 83 = .ok (.getfield 19, 3) := by decide +kernel
theorem dX7_scoreOf_86 : decode cX7_scoreOf 86 = .ok (.iload_n 3, 1) := by decide +kernel
theorem dX7_scoreOf_87 : decode cX7_scoreOf 87 = .ok (.iaload, 1) := by decide +kernel
theorem dX7_scoreOf_88 : decode cX7_scoreOf 88 = .ok (.aload_n 0, 1) := by decide +kernel
theorem dX7_scoreOf_89 : decode cX7_scoreOf 89 = .ok (.getfield 19, 3) := by decide +kernel
theorem dX7_scoreOf_92 : decode cX7_scoreOf 92 = .ok (.iload_n 1, 1) := by decide +kernel
theorem dX7_scoreOf_93 : decode cX7_scoreOf 93 = .ok (.iaload, 1) := by decide +kernel
theorem dX7_scoreOf_94 : decode cX7_scoreOf 94 = .ok (.if_icmp .eq 7, 3) := by decide +kernel
theorem dX7_scoreOf_97 : decode cX7_scoreOf 97 = .ok (.iconst 1, 1) := by decide +kernel
theorem dX7_scoreOf_98 : decode cX7_scoreOf 98 = .ok (.goto 4, 3) := by decide +kernel
theorem dX7_scoreOf_101 : decode cX7_scoreOf 101 = .ok (.iconst 0, 1) := by decide +kernel
theorem dX7_scoreOf_102 : decode cX7_scoreOf 102 = .ok (.iadd, 1) := by decide +kernel
theorem dX7_scoreOf_103 : decode cX7_scoreOf 103 = .ok (.iastore, 1) := by decide +kernel
theorem dX7_scoreOf_104 : decode cX7_scoreOf 104 = .ok (.iconst 0, 1) := by decide +kernel
theorem dX7_scoreOf_105 : decode cX7_scoreOf 105 = .ok (.istore 4, 2) := by decide +kernel
theorem dX7_scoreOf_107 : decode cX7_scoreOf 107 = .ok (.iconst 0, 1) := by decide +kernel
theorem dX7_scoreOf_108 : decode cX7_scoreOf 108 = .ok (.istore 5, 2) := by decide +kernel
theorem dX7_scoreOf_110 : decode cX7_scoreOf 110 = .ok (.iload 5, 2) := by decide +kernel
theorem dX7_scoreOf_112 : decode cX7_scoreOf 112 = .ok (.aload_n 0, 1) := by decide +kernel
theorem dX7_scoreOf_113 : decode cX7_scoreOf 113 = .ok (.getfield 28, 3) := by decide +kernel
theorem dX7_scoreOf_116 : decode cX7_scoreOf 116 = .ok (.iconst 0, 1) := by decide +kernel
theorem dX7_scoreOf_117 : decode cX7_scoreOf 117 = .ok (.iaload, 1) := by decide +kernel
theorem dX7_scoreOf_118 : decode cX7_scoreOf 118 = .ok (.if_icmp .ge 91, 3) := by decide +kernel
theorem dX7_scoreOf_121 : decode cX7_scoreOf 121 = .ok (.aload_n 0, 1) := by decide +kernel
theorem dX7_scoreOf_122 : decode cX7_scoreOf 122 = .ok (.getfield 31, 3) := by decide +kernel
theorem dX7_scoreOf_125 : decode cX7_scoreOf 125 = .ok (.iload 5, 2) := by decide +kernel
theorem dX7_scoreOf_127 : decode cX7_scoreOf 127 = .ok (.iaload, 1) := by decide +kernel
theorem dX7_scoreOf_128 : decode cX7_scoreOf 128 = .ok (.istore 6, 2) := by decide +kernel
theorem dX7_scoreOf_130 : decode cX7_scoreOf 130 = .ok (.iload 6, 2) := by decide +kernel
theorem dX7_scoreOf_132 : decode cX7_scoreOf 132 = .ok (.ifCond .le 38, 3) := by decide +kernel
theorem dX7_scoreOf_135 : decode cX7_scoreOf 135 = .ok (.aload_n 0, 1) := by decide +kernel
theorem dX7_scoreOf_136 : decode cX7_scoreOf 136 = .ok (.getfield 42, 3) := by decide +kernel
theorem dX7_scoreOf_139 : decode cX7_scoreOf 139 = .ok (.iload 4, 2) := by decide +kernel
theorem dX7_scoreOf_141 : decode cX7_scoreOf 141 = .ok (.iload 6, 2) := by decide +kernel
theorem dX7_scoreOf_143 : decode cX7_scoreOf 143 = .ok (.bipush 100, 2) := by decide +kernel
theorem dX7_scoreOf_145 : decode cX7_scoreOf 145 = .ok (.if_icmp .lt 11, 3) := by decide +kernel
theorem dX7_scoreOf_148 : decode cX7_scoreOf 148 = .ok (.iload 6, 2) := by decide +kernel
theorem dX7_scoreOf_150 : decode cX7_scoreOf 150 = .ok (.bipush 100, 2) := by decide +kernel
theorem dX7_scoreOf_152 : decode cX7_scoreOf 152 = .ok (.isub, 1) := by decide +kernel
theorem dX7_scoreOf_153 : decode cX7_scoreOf 153 = .ok (.goto 10, 3) := by decide +kernel
theorem dX7_scoreOf_156 : decode cX7_scoreOf 156 = .ok (.aload_n 0, 1) := by decide +kernel
theorem dX7_scoreOf_157 : decode cX7_scoreOf 157 = .ok (.getfield 45, 3) := by decide +kernel
theorem dX7_scoreOf_160 : decode cX7_scoreOf 160 = .ok (.iload 6, 2) := by decide +kernel
theorem dX7_scoreOf_162 : decode cX7_scoreOf 162 = .ok (.iaload, 1) := by decide +kernel
theorem dX7_scoreOf_163 : decode cX7_scoreOf 163 = .ok (.iastore, 1) := by decide +kernel
theorem dX7_scoreOf_164 : decode cX7_scoreOf 164 = .ok (.iinc 4 1, 3) := by decide +kernel
theorem dX7_scoreOf_167 : decode cX7_scoreOf 167 = .ok (.goto 36, 3) := by decide +kernel
theorem dX7_scoreOf_170 : decode cX7_scoreOf 170 = .ok (.iinc 4 (-1), 3) := by decide +kernel
theorem dX7_scoreOf_173 : decode cX7_scoreOf 173 = .ok (.aload_n 0, 1) := by decide +kernel
theorem dX7_scoreOf_174 : decode cX7_scoreOf 174 = .ok (.getfield 42, 3) := by decide +kernel
theorem dX7_scoreOf_177 : decode cX7_scoreOf 177 = .ok (.iload 4, 2) := by decide +kernel
theorem dX7_scoreOf_179 : decode cX7_scoreOf 179 = .ok (.iconst 1, 1) := by decide +kernel
theorem dX7_scoreOf_180 : decode cX7_scoreOf 180 = .ok (.isub, 1) := by decide +kernel
theorem dX7_scoreOf_181 : decode cX7_scoreOf 181 = .ok (.iload 6, 2) := by decide +kernel
theorem dX7_scoreOf_183 : decode cX7_scoreOf 183 = .ok (.aload_n 0, 1) := by decide +kernel
theorem dX7_scoreOf_184 : decode cX7_scoreOf 184 = .ok (.getfield 42, 3) := by decide +kernel
theorem dX7_scoreOf_187 : decode cX7_scoreOf 187 = .ok (.iload 4, 2) := by decide +kernel
theorem dX7_scoreOf_189 : decode cX7_scoreOf 189 = .ok (.iconst 1, 1) := by decide +kernel
theorem dX7_scoreOf_190 : decode cX7_scoreOf 190 = .ok (.isub, 1) := by decide +kernel
theorem dX7_scoreOf_191 : decode cX7_scoreOf 191 = .ok (.iaload, 1) := by decide +kernel
theorem dX7_scoreOf_192 : decode cX7_scoreOf 192 = .ok (.aload_n 0, 1) := by decide +kernel
theorem dX7_scoreOf_193 : decode cX7_scoreOf 193 = .ok (.getfield 42, 3) := by decide +kernel
theorem dX7_scoreOf_196 : decode cX7_scoreOf 196 = .ok (.iload 4, 2) := by decide +kernel
theorem dX7_scoreOf_198 : decode cX7_scoreOf 198 = .ok (.iaload, 1) := by decide +kernel
theorem dX7_scoreOf_199 : decode cX7_scoreOf 199 = .ok (.invokestatic 220, 3) := by decide +kernel
theorem dX7_scoreOf_202 : decode cX7_scoreOf 202 = .ok (.iastore, 1) := by decide +kernel
theorem dX7_scoreOf_203 : decode cX7_scoreOf 203 = .ok (.iinc 5 1, 3) := by decide +kernel
theorem dX7_scoreOf_206 : decode cX7_scoreOf 206 = .ok (.goto (-96), 3) := by decide +kernel
theorem dX7_scoreOf_209 : decode cX7_scoreOf 209 = .ok (.aload_n 0, 1) := by decide +kernel
theorem dX7_scoreOf_210 : decode cX7_scoreOf 210 = .ok (.getfield 42, 3) := by decide +kernel
theorem dX7_scoreOf_213 : decode cX7_scoreOf 213 = .ok (.iconst 0, 1) := by decide +kernel
theorem dX7_scoreOf_214 : decode cX7_scoreOf 214 = .ok (.iaload, 1) := by decide +kernel
theorem dX7_scoreOf_215 : decode cX7_scoreOf 215 = .ok (.ireturn, 1) := by decide +kernel
theorem dX7_joined_0 : decode cX7_joined 0 = .ok (.iload_n 0, 1) := by decide +kernel
theorem dX7_joined_1 : decode cX7_joined 1 = .ok (.tableswitch 39 (-3) (-1) #[35, 31, 27], 27) := by decide +kernel
theorem dX7_joined_28 : decode cX7_joined 28 = .ok (.iload_n 1, 1) := by decide +kernel
theorem dX7_joined_29 : decode cX7_joined 29 = .ok (.iload_n 2, 1) := by decide +kernel
theorem dX7_joined_30 : decode cX7_joined 30 = .ok (.iadd, 1) := by decide +kernel
theorem dX7_joined_31 : decode cX7_joined 31 = .ok (.ireturn, 1) := by decide +kernel
theorem dX7_joined_32 : decode cX7_joined 32 = .ok (.iload_n 1, 1) := by decide +kernel
theorem dX7_joined_33 : decode cX7_joined 33 = .ok (.iload_n 2, 1) := by decide +kernel
theorem dX7_joined_34 : decode cX7_joined 34 = .ok (.isub, 1) := by decide +kernel
theorem dX7_joined_35 : decode cX7_joined 35 = .ok (.ireturn, 1) := by decide +kernel
theorem dX7_joined_36 : decode cX7_joined 36 = .ok (.iload_n 1, 1) := by decide +kernel
theorem dX7_joined_37 : decode cX7_joined 37 = .ok (.iload_n 2, 1) := by decide +kernel
theorem dX7_joined_38 : decode cX7_joined 38 = .ok (.imul, 1) := by decide +kernel
theorem dX7_joined_39 : decode cX7_joined 39 = .ok (.ireturn, 1) := by decide +kernel
theorem dX7_joined_40 : decode cX7_joined 40 = .ok (.iload_n 2, 1) := by decide +kernel
theorem dX7_joined_41 : decode cX7_joined 41 = .ok (.ifCond .ne 7, 3) := by decide +kernel
theorem dX7_joined_44 : decode cX7_joined 44 = .ok (.iconst 0, 1) := by decide +kernel
theorem dX7_joined_45 : decode cX7_joined 45 = .ok (.goto 6, 3) := by decide +kernel
theorem dX7_joined_48 : decode cX7_joined 48 = .ok (.iload_n 1, 1) := by decide +kernel
theorem dX7_joined_49 : decode cX7_joined 49 = .ok (.iload_n 2, 1) := by decide +kernel
theorem dX7_joined_50 : decode cX7_joined 50 = .ok (.idiv, 1) := by decide +kernel
theorem dX7_joined_51 : decode cX7_joined 51 = .ok (.ireturn, 1) := by decide +kernel
theorem dX7_parse_0 : decode cX7_parse 0 = .ok (.aload_n 0, 1) := by decide +kernel
theorem dX7_parse_1 : decode cX7_parse 1 = .ok (.iconst 0, 1) := by decide +kernel
theorem dX7_parse_2 : decode cX7_parse 2 = .ok (.putfield 70, 3) := by decide +kernel
theorem dX7_parse_5 : decode cX7_parse 5 = .ok (.aload_n 0, 1) := by decide +kernel
theorem dX7_parse_6 : decode cX7_parse 6 = .ok (.iload_n 1, 1) := by decide +kernel
theorem dX7_parse_7 : decode cX7_parse 7 = .ok (.iconst 0, 1) := by decide +kernel
theorem dX7_parse_8 : decode cX7_parse 8 = .ok (.aload_n 0, 1) := by decide +kernel
theorem dX7_parse_9 : decode cX7_parse 9 = .ok (.getfield 81, 3) := by decide +kernel
theorem dX7_parse_12 : decode cX7_parse 12 = .ok (.invokestatic 107, 3) := by decide +kernel
theorem dX7_parse_15 : decode cX7_parse 15 = .ok (.ifCond .ne 7, 3) := by decide +kernel
theorem dX7_parse_18 : decode cX7_parse 18 = .ok (.iconst 1, 1) := by decide +kernel
theorem dX7_parse_19 : decode cX7_parse 19 = .ok (.goto 4, 3) := by decide +kernel
theorem dX7_parse_22 : decode cX7_parse 22 = .ok (.iconst 0, 1) := by decide +kernel
theorem dX7_parse_23 : decode cX7_parse 23 = .ok (.iconst 1, 1) := by decide +kernel
theorem dX7_parse_24 : decode cX7_parse 24 = .ok (.invokevirtual 224, 3) := by decide +kernel
theorem dX7_parse_27 : decode cX7_parse 27 = .ok (.ifCond .eq 5, 3) := by decide +kernel
theorem dX7_parse_30 : decode cX7_parse 30 = .ok (.iconst 0, 1) := by decide +kernel
theorem dX7_parse_31 : decode cX7_parse 31 = .ok (.ireturn, 1) := by decide +kernel
theorem dX7_parse_32 : decode cX7_parse 32 = .ok (.aload_n 0, 1) := by decide +kernel
theorem dX7_parse_33 : decode cX7_parse 33 = .ok (.iload_n 1, 1) := by decide +kernel
theorem dX7_parse_34 : decode cX7_parse 34 = .ok (.putfield 88, 3) := by decide +kernel
theorem dX7_parse_37 : decode cX7_parse 37 = .ok (.aload_n 0, 1) := by decide +kernel
theorem dX7_parse_38 : decode cX7_parse 38 = .ok (.iconst 0, 1) := by decide +kernel
theorem dX7_parse_39 : decode cX7_parse 39 = .ok (.putfield 81, 3) := by decide +kernel
theorem dX7_parse_42 : decode cX7_parse 42 = .ok (.aload_n 0, 1) := by decide +kernel
theorem dX7_parse_43 : decode cX7_parse 43 = .ok (.iconst 0, 1) := by decide +kernel
theorem dX7_parse_44 : decode cX7_parse 44 = .ok (.putfield 91, 3) := by decide +kernel
theorem dX7_parse_47 : decode cX7_parse 47 = .ok (.aload_n 0, 1) := by decide +kernel
theorem dX7_parse_48 : decode cX7_parse 48 = .ok (.iconst 0, 1) := by decide +kernel
theorem dX7_parse_49 : decode cX7_parse 49 = .ok (.putfield 123, 3) := by decide +kernel
theorem dX7_parse_52 : decode cX7_parse 52 = .ok (.aload_n 0, 1) := by decide +kernel
theorem dX7_parse_53 : decode cX7_parse 53 = .ok (.iconst (-1), 1) := by decide +kernel
theorem dX7_parse_54 : decode cX7_parse 54 = .ok (.putfield 38, 3) := by decide +kernel
theorem dX7_parse_57 : decode cX7_parse 57 = .ok (.aload_n 0, 1) := by decide +kernel
theorem dX7_parse_58 : decode cX7_parse 58 = .ok (.iconst 0, 1) := by decide +kernel
theorem dX7_parse_59 : decode cX7_parse 59 = .ok (.putfield 139, 3) := by decide +kernel
theorem dX7_parse_62 : decode cX7_parse 62 = .ok (.aload_n 0, 1) := by decide +kernel
theorem dX7_parse_63 : decode cX7_parse 63 = .ok (.invokevirtual 61, 3) := by decide +kernel
theorem dX7_parse_66 : decode cX7_parse 66 = .ok (.aload_n 0, 1) := by decide +kernel
theorem dX7_parse_67 : decode cX7_parse 67 = .ok (.invokevirtual 136, 3) := by decide +kernel
theorem dX7_parse_70 : decode cX7_parse 70 = .ok (.iconst 1, 1) := by decide +kernel
theorem dX7_parse_71 : decode cX7_parse 71 = .ok (.istore_n 2, 1) := by decide +kernel
theorem dX7_parse_72 : decode cX7_parse 72 = .ok (.iload_n 2, 1) := by decide +kernel
theorem dX7_parse_73 : decode cX7_parse 73 = .ok (.ifCond .eq 35, 3) := by decide +kernel
theorem dX7_parse_76 : decode cX7_parse 76 = .ok (.aload_n 0, 1) := by decide +kernel
theorem dX7_parse_77 : decode cX7_parse 77 = .ok (.getfield 104, 3) := by decide +kernel
theorem dX7_parse_80 : decode cX7_parse 80 = .ok (.ifCond .eq 28, 3) := by decide +kernel
theorem dX7_parse_83 : decode cX7_parse 83 = .ok (.aload_n 0, 1) := by decide +kernel
theorem dX7_parse_84 : decode cX7_parse 84 = .ok (.invokevirtual 228, 3) := by decide +kernel
theorem dX7_parse_87 : decode cX7_parse 87 = .ok (.ifCond .eq 16, 3) := by decide +kernel
theorem dX7_parse_90 : decode cX7_parse 90 = .ok (.aload_n 0, 1) := by decide +kernel
theorem dX7_parse_91 : decode cX7_parse 91 = .ok (.bipush 59, 2) := by decide +kernel
theorem dX7_parse_93 : decode cX7_parse 93 = .ok (.invokevirtual 211, 3) := by decide +kernel
theorem dX7_parse_96 : decode cX7_parse 96 = .ok (.ifCond .eq 7, 3) := by decide +kernel
theorem dX7_parse_99 : decode cX7_parse 99 = .ok (.iconst 1, 1) := by decide +kernel
theorem dX7_parse_100 : decode cX7_parse 100 = .ok (.goto 4, 3) := by decide +kernel
theorem dX7_parse_103 : decode cX7_parse 103 = .ok (.iconst 0, 1) := by decide +kernel
theorem dX7_parse_104 : decode cX7_parse 104 = .ok (.istore_n 2, 1) := by decide +kernel
theorem dX7_parse_105 : decode cX7_parse 105 = .ok (.goto (-33), 3) := by decide +kernel
theorem dX7_parse_108 : decode cX7_parse 108 = .ok (.iload_n 2, 1) := by decide +kernel
theorem dX7_parse_109 : decode cX7_parse 109 = .ok (.ifCond .ne 8, 3) := by decide +kernel
theorem dX7_parse_112 : decode cX7_parse 112 = .ok (.aload_n 0, 1) := by decide +kernel
theorem dX7_parse_113 : decode cX7_parse 113 = .ok (.getfield 123, 3) := by decide +kernel
theorem dX7_parse_116 : decode cX7_parse 116 = .ok (.ireturn, 1) := by decide +kernel
theorem dX7_parse_117 : decode cX7_parse 117 = .ok (.aload_n 0, 1) := by decide +kernel
theorem dX7_parse_118 : decode cX7_parse 118 = .ok (.invokevirtual 64, 3) := by decide +kernel
theorem dX7_parse_121 : decode cX7_parse 121 = .ok (.aload_n 0, 1) := by decide +kernel
theorem dX7_parse_122 : decode cX7_parse 122 = .ok (.invokevirtual 67, 3) := by decide +kernel
theorem dX7_parse_125 : decode cX7_parse 125 = .ok (.iconst 0, 1) := by decide +kernel
theorem dX7_parse_126 : decode cX7_parse 126 = .ok (.ireturn, 1) := by decide +kernel
theorem dX7_errorPosition_0 : decode cX7_errorPosition 0 = .ok (.aload_n 0, 1) := by decide +kernel
theorem dX7_errorPosition_1 : decode cX7_errorPosition 1 = .ok (.iconst 0, 1) := by decide +kernel
theorem dX7_errorPosition_2 : decode cX7_errorPosition 2 = .ok (.putfield 70, 3) := by decide +kernel
theorem dX7_errorPosition_5 : decode cX7_errorPosition 5 = .ok (.aload_n 0, 1) := by decide +kernel
theorem dX7_errorPosition_6 : decode cX7_errorPosition 6 = .ok (.getfield 38, 3) := by decide +kernel
theorem dX7_errorPosition_9 : decode cX7_errorPosition 9 = .ok (.ireturn, 1) := by decide +kernel
theorem dX7_begins_0 : decode cX7_begins 0 = .ok (.iconst 0, 1) := by decide +kernel
theorem dX7_begins_1 : decode cX7_begins 1 = .ok (.istore_n 1, 1) := by decide +kernel
theorem dX7_begins_2 : decode cX7_begins 2 = .ok (.iload_n 1, 1) := by decide +kernel
theorem dX7_begins_3 : decode cX7_begins 3 = .ok (.sipush 821, 3) := by decide +kernel
theorem dX7_begins_6 : decode cX7_begins 6 = .ok (.if_icmp .ge 16, 3) := by decide +kernel
theorem dX7_begins_9 : decode cX7_begins 9 = .ok (.aload_n 0, 1) := by decide +kernel
theorem dX7_begins_10 : decode cX7_begins 10 = .ok (.getfield 7, 3) := by decide +kernel
theorem dX7_begins_13 : decode cX7_begins 13 = .ok (.iload_n 1, 1) := by decide +kernel
theorem dX7_begins_14 : decode cX7_begins 14 = .ok (.iconst 0, 1) := by decide +kernel
theorem dX7_begins_15 : decode cX7_begins 15 = .ok (.iastore, 1) := by decide +kernel
theorem dX7_begins_16 : decode cX7_begins 16 = .ok (.iinc 1 1, 3) := by decide +kernel
theorem dX7_begins_19 : decode cX7_begins 19 = .ok (.goto (-17), 3) := by decide +kernel
theorem dX7_begins_22 : decode cX7_begins 22 = .ok (.iconst 0, 1) := by decide +kernel
theorem dX7_begins_23 : decode cX7_begins 23 = .ok (.istore_n 1, 1) := by decide +kernel
theorem dX7_begins_24 : decode cX7_begins 24 = .ok (.iload_n 1, 1) := by decide +kernel
theorem dX7_begins_25 : decode cX7_begins 25 = .ok (.bipush 8, 2) := by decide +kernel
theorem dX7_begins_27 : decode cX7_begins 27 = .ok (.if_icmp .ge 70, 3) := by decide +kernel
theorem dX7_begins_30 : decode cX7_begins 30 = .ok (.aload_n 0, 1) := by decide +kernel
theorem dX7_begins_31 : decode cX7_begins 31 = .ok (.getfield 7, 3) := by decide +kernel
theorem dX7_begins_34 : decode cX7_begins 34 = .ok (.iconst 1, 1) := by decide +kernel
theorem dX7_begins_35 : decode cX7_begins 35 = .ok (.iload_n 1, 1) := by decide +kernel
theorem dX7_begins_36 : decode cX7_begins 36 = .ok (.iadd, 1) := by decide +kernel
theorem dX7_begins_37 : decode cX7_begins 37 = .ok (.aload_n 0, 1) := by decide +kernel
theorem dX7_begins_38 : decode cX7_begins 38 = .ok (.getfield 25, 3) := by decide +kernel
theorem dX7_begins_41 : decode cX7_begins 41 = .ok (.iload_n 1, 1) := by decide +kernel
theorem dX7_begins_42 : decode cX7_begins 42 = .ok (.iaload, 1) := by decide +kernel
theorem dX7_begins_43 : decode cX7_begins 43 = .ok (.iastore, 1) := by decide +kernel
theorem dX7_begins_44 : decode cX7_begins 44 = .ok (.iconst 0, 1) := by decide +kernel
theorem dX7_begins_45 : decode cX7_begins 45 = .ok (.istore_n 2, 1) := by decide +kernel
theorem dX7_begins_46 : decode cX7_begins 46 = .ok (.iload_n 2, 1) := by decide +kernel
theorem dX7_begins_47 : decode cX7_begins 47 = .ok (.bipush 8, 2) := by decide +kernel
theorem dX7_begins_49 : decode cX7_begins 49 = .ok (.if_icmp .ge 42, 3) := by decide +kernel
theorem dX7_begins_52 : decode cX7_begins 52 = .ok (.aload_n 0, 1) := by decide +kernel
theorem dX7_begins_53 : decode cX7_begins 53 = .ok (.getfield 7, 3) := by decide +kernel
theorem dX7_begins_56 : decode cX7_begins 56 = .ok (.bipush 9, 2) := by decide +kernel
theorem dX7_begins_58 : decode cX7_begins 58 = .ok (.iload_n 1, 1) := by decide +kernel
theorem dX7_begins_59 : decode cX7_begins 59 = .ok (.iadd, 1) := by decide +kernel
theorem dX7_begins_60 : decode cX7_begins 60 = .ok (.dup2, 1) := by decide +kernel
theorem dX7_begins_61 : decode cX7_begins 61 = .ok (.iaload, 1) := by decide +kernel
theorem dX7_begins_62 : decode cX7_begins 62 = .ok (.aload_n 0, 1) := by decide +kernel
theorem dX7_begins_63 : decode cX7_begins 63 = .ok (.getfield 22, 3) := by decide +kernel
theorem dX7_begins_66 : decode cX7_begins 66 = .ok (.bipush 8, 2) := by decide +kernel
theorem dX7_begins_68 : decode cX7_begins 68 = .ok (.iload_n 1, 1) := by decide +kernel
theorem dX7_begins_69 : decode cX7_begins 69 = .ok (.imul, 1) := by decide +kernel
theorem dX7_begins_70 : decode cX7_begins 70 = .ok (.iload_n 2, 1) := by decide +kernel
theorem dX7_begins_71 : decode cX7_begins 71 = .ok (.iadd, 1) := by decide +kernel
theorem dX7_begins_72 : decode cX7_begins 72 = .ok (.iaload, 1) := by decide +kernel
theorem dX7_begins_73 : decode cX7_begins 73 = .ok (.ifCond .le 9, 3) := by decide +kernel
theorem dX7_begins_76 : decode cX7_begins 76 = .ok (.iconst 1, 1) := by decide +kernel
theorem dX7_begins_77 : decode cX7_begins 77 = .ok (.iload_n 2, 1) := by decide +kernel
theorem dX7_begins_78 : decode cX7_begins 78 = .ok (.ishl, 1) := by decide +kernel
theorem dX7_begins_79 : decode cX7_begins 79 = .ok (.goto 4, 3) := by decide +kernel
theorem dX7_begins_82 : decode cX7_begins 82 = .ok (.iconst 0, 1) := by decide +kernel
theorem dX7_begins_83 : decode cX7_begins 83 = .ok (.ior, 1) := by decide +kernel
theorem dX7_begins_84 : decode cX7_begins 84 = .ok (.iastore, 1) := by decide +kernel
theorem dX7_begins_85 : decode cX7_begins 85 = .ok (.iinc 2 1, 3) := by decide +kernel
theorem dX7_begins_88 : decode cX7_begins 88 = .ok (.goto (-42), 3) := by decide +kernel
theorem dX7_begins_91 : decode cX7_begins 91 = .ok (.iinc 1 1, 3) := by decide +kernel
theorem dX7_begins_94 : decode cX7_begins 94 = .ok (.goto (-70), 3) := by decide +kernel
theorem dX7_begins_97 : decode cX7_begins 97 = .ok (.aload_n 0, 1) := by decide +kernel
theorem dX7_begins_98 : decode cX7_begins 98 = .ok (.iconst 0, 1) := by decide +kernel
theorem dX7_begins_99 : decode cX7_begins 99 = .ok (.putfield 231, 3) := by decide +kernel
theorem dX7_begins_102 : decode cX7_begins 102 = .ok (.aload_n 0, 1) := by decide +kernel
theorem dX7_begins_103 : decode cX7_begins 103 = .ok (.getfield 57, 3) := by decide +kernel
theorem dX7_begins_106 : decode cX7_begins 106 = .ok (.iconst 0, 1) := by decide +kernel
theorem dX7_begins_107 : decode cX7_begins 107 = .ok (.iconst 0, 1) := by decide +kernel
theorem dX7_begins_108 : decode cX7_begins 108 = .ok (.bastore, 1) := by decide +kernel
theorem dX7_begins_109 : decode cX7_begins 109 = .ok (.aload_n 0, 1) := by decide +kernel
theorem dX7_begins_110 : decode cX7_begins 110 = .ok (.getfield 57, 3) := by decide +kernel
theorem dX7_begins_113 : decode cX7_begins 113 = .ok (.iconst 1, 1) := by decide +kernel
theorem dX7_begins_114 : decode cX7_begins 114 = .ok (.iconst 0, 1) := by decide +kernel
theorem dX7_begins_115 : decode cX7_begins 115 = .ok (.bastore, 1) := by decide +kernel
theorem dX7_begins_116 : decode cX7_begins 116 = .ok (.return_, 1) := by decide +kernel
theorem dX7_peerCount_0 : decode cX7_peerCount 0 = .ok (.aload_n 0, 1) := by decide +kernel
theorem dX7_peerCount_1 : decode cX7_peerCount 1 = .ok (.iconst 0, 1) := by decide +kernel
theorem dX7_peerCount_2 : decode cX7_peerCount 2 = .ok (.putfield 70, 3) := by decide +kernel
theorem dX7_peerCount_5 : decode cX7_peerCount 5 = .ok (.aload_n 0, 1) := by decide +kernel
theorem dX7_peerCount_6 : decode cX7_peerCount 6 = .ok (.getfield 13, 3) := by decide +kernel
theorem dX7_peerCount_9 : decode cX7_peerCount 9 = .ok (.iconst 0, 1) := by decide +kernel
theorem dX7_peerCount_10 : decode cX7_peerCount 10 = .ok (.iaload, 1) := by decide +kernel
theorem dX7_peerCount_11 : decode cX7_peerCount 11 = .ok (.ireturn, 1) := by decide +kernel
theorem dX7_tick_0 : decode cX7_tick 0 = .ok (.aload_n 0, 1) := by decide +kernel
theorem dX7_tick_1 : decode cX7_tick 1 = .ok (.iconst 0, 1) := by decide +kernel
theorem dX7_tick_2 : decode cX7_tick 2 = .ok (.putfield 70, 3) := by decide +kernel
theorem dX7_tick_5 : decode cX7_tick 5 = .ok (.aload_n 0, 1) := by decide +kernel
theorem dX7_tick_6 : decode cX7_tick 6 = .ok (.getfield 7, 3) := by decide +kernel
theorem dX7_tick_9 : decode cX7_tick 9 = .ok (.iconst 0, 1) := by decide +kernel
theorem dX7_tick_10 : decode cX7_tick 10 = .ok (.iaload, 1) := by decide +kernel
theorem dX7_tick_11 : decode cX7_tick 11 = .ok (.ireturn, 1) := by decide +kernel
theorem dX7_no_0 : decode cX7_no 0 = .ok (.aload_n 0, 1) := by decide +kernel
theorem dX7_no_1 : decode cX7_no 1 = .ok (.iload_n 1, 1) := by decide +kernel
theorem dX7_no_2 : decode cX7_no 2 = .ok (.iconst 0, 1) := by decide +kernel
theorem dX7_no_3 : decode cX7_no 3 = .ok (.iload_n 2, 1) := by decide +kernel
theorem dX7_no_4 : decode cX7_no 4 = .ok (.iconst 1, 1) := by decide +kernel
theorem dX7_no_5 : decode cX7_no 5 = .ok (.isub, 1) := by decide +kernel
theorem dX7_no_6 : decode cX7_no 6 = .ok (.invokestatic 107, 3) := by decide +kernel
theorem dX7_no_9 : decode cX7_no 9 = .ok (.ifCond .ne 7, 3) := by decide +kernel
theorem dX7_no_12 : decode cX7_no 12 = .ok (.iconst 1, 1) := by decide +kernel
theorem dX7_no_13 : decode cX7_no 13 = .ok (.goto 4, 3) := by decide +kernel
theorem dX7_no_16 : decode cX7_no 16 = .ok (.iconst 0, 1) := by decide +kernel
theorem dX7_no_17 : decode cX7_no 17 = .ok (.iconst 1, 1) := by decide +kernel
theorem dX7_no_18 : decode cX7_no 18 = .ok (.invokevirtual 224, 3) := by decide +kernel
theorem dX7_no_21 : decode cX7_no 21 = .ok (.ireturn, 1) := by decide +kernel
theorem dX7_noPeers_0 : decode cX7_noPeers 0 = .ok (.aload_n 0, 1) := by decide +kernel
theorem dX7_noPeers_1 : decode cX7_noPeers 1 = .ok (.iconst 0, 1) := by decide +kernel
theorem dX7_noPeers_2 : decode cX7_noPeers 2 = .ok (.putfield 70, 3) := by decide +kernel
theorem dX7_noPeers_5 : decode cX7_noPeers 5 = .ok (.aload_n 0, 1) := by decide +kernel
theorem dX7_noPeers_6 : decode cX7_noPeers 6 = .ok (.iload_n 1, 1) := by decide +kernel
theorem dX7_noPeers_7 : decode cX7_noPeers 7 = .ok (.aload_n 0, 1) := by decide +kernel
theorem dX7_noPeers_8 : decode cX7_noPeers 8 = .ok (.getfield 13, 3) := by decide +kernel
theorem dX7_noPeers_11 : decode cX7_noPeers 11 = .ok (.iconst 0, 1) := by decide +kernel
theorem dX7_noPeers_12 : decode cX7_noPeers 12 = .ok (.iaload, 1) := by decide +kernel
theorem dX7_noPeers_13 : decode cX7_noPeers 13 = .ok (.invokevirtual 234, 3) := by decide +kernel
theorem dX7_noPeers_16 : decode cX7_noPeers 16 = .ok (.ifCond .ne 17, 3) := by decide +kernel
theorem dX7_noPeers_19 : decode cX7_noPeers 19 = .ok (.aload_n 0, 1) := by decide +kernel
theorem dX7_noPeers_20 : decode cX7_noPeers 20 = .ok (.iload_n 2, 1) := by decide +kernel
theorem dX7_noPeers_21 : decode cX7_noPeers 21 = .ok (.aload_n 0, 1) := by decide +kernel
theorem dX7_noPeers_22 : decode cX7_noPeers 22 = .ok (.getfield 13, 3) := by decide +kernel
theorem dX7_noPeers_25 : decode cX7_noPeers 25 = .ok (.iconst 0, 1) := by decide +kernel
theorem dX7_noPeers_26 : decode cX7_noPeers 26 = .ok (.iaload, 1) := by decide +kernel
theorem dX7_noPeers_27 : decode cX7_noPeers 27 = .ok (.invokevirtual 234, 3) := by decide +kernel
theorem dX7_noPeers_30 : decode cX7_noPeers 30 = .ok (.ifCond .eq 7, 3) := by decide +kernel
theorem dX7_noPeers_33 : decode cX7_noPeers 33 = .ok (.iconst 1, 1) := by decide +kernel
theorem dX7_noPeers_34 : decode cX7_noPeers 34 = .ok (.goto 4, 3) := by decide +kernel
theorem dX7_noPeers_37 : decode cX7_noPeers 37 = .ok (.iconst 0, 1) := by decide +kernel
theorem dX7_noPeers_38 : decode cX7_noPeers 38 = .ok (.ireturn, 1) := by decide +kernel
theorem dX7_noTwo_0 : decode cX7_noTwo 0 = .ok (.aload_n 0, 1) := by decide +kernel
theorem dX7_noTwo_1 : decode cX7_noTwo 1 = .ok (.iload_n 1, 1) := by decide +kernel
theorem dX7_noTwo_2 : decode cX7_noTwo 2 = .ok (.iload_n 2, 1) := by decide +kernel
theorem dX7_noTwo_3 : decode cX7_noTwo 3 = .ok (.invokevirtual 237, 3) := by decide +kernel
theorem dX7_noTwo_6 : decode cX7_noTwo 6 = .ok (.ifCond .ne 21, 3) := by decide +kernel
theorem dX7_noTwo_9 : decode cX7_noTwo 9 = .ok (.aload_n 0, 1) := by decide +kernel
theorem dX7_noTwo_10 : decode cX7_noTwo 10 = .ok (.iload_n 1, 1) := by decide +kernel
theorem dX7_noTwo_11 : decode cX7_noTwo 11 = .ok (.iload_n 2, 1) := by decide +kernel
theorem dX7_noTwo_12 : decode cX7_noTwo 12 = .ok (.if_icmp .ne 7, 3) := by decide +kernel
theorem dX7_noTwo_15 : decode cX7_noTwo 15 = .ok (.iconst 1, 1) := by decide +kernel
theorem dX7_noTwo_16 : decode cX7_noTwo 16 = .ok (.goto 4, 3) := by decide +kernel
theorem dX7_noTwo_19 : decode cX7_noTwo 19 = .ok (.iconst 0, 1) := by decide +kernel
theorem dX7_noTwo_20 : decode cX7_noTwo 20 = .ok (.iconst 2, 1) := by decide +kernel
theorem dX7_noTwo_21 : decode cX7_noTwo 21 = .ok (.invokevirtual 224, 3) := by decide +kernel
theorem dX7_noTwo_24 : decode cX7_noTwo 24 = .ok (.ifCond .eq 7, 3) := by decide +kernel
theorem dX7_noTwo_27 : decode cX7_noTwo 27 = .ok (.iconst 1, 1) := by decide +kernel
theorem dX7_noTwo_28 : decode cX7_noTwo 28 = .ok (.goto 4, 3) := by decide +kernel
theorem dX7_noTwo_31 : decode cX7_noTwo 31 = .ok (.iconst 0, 1) := by decide +kernel
theorem dX7_noTwo_32 : decode cX7_noTwo 32 = .ok (.ireturn, 1) := by decide +kernel
theorem dX7_areKnown_0 : decode cX7_areKnown 0 = .ok (.aload_n 0, 1) := by decide +kernel
theorem dX7_areKnown_1 : decode cX7_areKnown 1 = .ok (.getfield 7, 3) := by decide +kernel
theorem dX7_areKnown_4 : decode cX7_areKnown 4 = .ok (.iconst 1, 1) := by decide +kernel
theorem dX7_areKnown_5 : decode cX7_areKnown 5 = .ok (.iload_n 1, 1) := by decide +kernel
theorem dX7_areKnown_6 : decode cX7_areKnown 6 = .ok (.iadd, 1) := by decide +kernel
theorem dX7_areKnown_7 : decode cX7_areKnown 7 = .ok (.iaload, 1) := by decide +kernel
theorem dX7_areKnown_8 : decode cX7_areKnown 8 = .ok (.iload_n 2, 1) := by decide +kernel
theorem dX7_areKnown_9 : decode cX7_areKnown 9 = .ok (.invokestatic 142, 3) := by decide +kernel
theorem dX7_areKnown_12 : decode cX7_areKnown 12 = .ok (.ireturn, 1) := by decide +kernel
theorem dX7_isUp_0 : decode cX7_isUp 0 = .ok (.aload_n 0, 1) := by decide +kernel
theorem dX7_isUp_1 : decode cX7_isUp 1 = .ok (.getfield 7, 3) := by decide +kernel
theorem dX7_isUp_4 : decode cX7_isUp 4 = .ok (.bipush 9, 2) := by decide +kernel
theorem dX7_isUp_6 : decode cX7_isUp 6 = .ok (.iload_n 1, 1) := by decide +kernel
theorem dX7_isUp_7 : decode cX7_isUp 7 = .ok (.iadd, 1) := by decide +kernel
theorem dX7_isUp_8 : decode cX7_isUp 8 = .ok (.iaload, 1) := by decide +kernel
theorem dX7_isUp_9 : decode cX7_isUp 9 = .ok (.iload_n 2, 1) := by decide +kernel
theorem dX7_isUp_10 : decode cX7_isUp 10 = .ok (.invokestatic 142, 3) := by decide +kernel
theorem dX7_isUp_13 : decode cX7_isUp 13 = .ok (.ireturn, 1) := by decide +kernel
theorem dX7_knows_0 : decode cX7_knows 0 = .ok (.aload_n 0, 1) := by decide +kernel
theorem dX7_knows_1 : decode cX7_knows 1 = .ok (.iload_n 1, 1) := by decide +kernel
theorem dX7_knows_2 : decode cX7_knows 2 = .ok (.iload_n 2, 1) := by decide +kernel
theorem dX7_knows_3 : decode cX7_knows 3 = .ok (.invokevirtual 237, 3) := by decide +kernel
theorem dX7_knows_6 : decode cX7_knows 6 = .ok (.ifCond .ne 16, 3) := by decide +kernel
theorem dX7_knows_9 : decode cX7_knows 9 = .ok (.aload_n 0, 1) := by decide +kernel
theorem dX7_knows_10 : decode cX7_knows 10 = .ok (.iload_n 1, 1) := by decide +kernel
theorem dX7_knows_11 : decode cX7_knows 11 = .ok (.iload_n 2, 1) := by decide +kernel
theorem dX7_knows_12 : decode cX7_knows 12 = .ok (.invokevirtual 240, 3) := by decide +kernel
theorem dX7_knows_15 : decode cX7_knows 15 = .ok (.ifCond .eq 7, 3) := by decide +kernel
theorem dX7_knows_18 : decode cX7_knows 18 = .ok (.iconst 1, 1) := by decide +kernel
theorem dX7_knows_19 : decode cX7_knows 19 = .ok (.goto 4, 3) := by decide +kernel
theorem dX7_knows_22 : decode cX7_knows 22 = .ok (.iconst 0, 1) := by decide +kernel
theorem dX7_knows_23 : decode cX7_knows 23 = .ok (.ireturn, 1) := by decide +kernel
theorem dX7_delay_0 : decode cX7_delay 0 = .ok (.aload_n 0, 1) := by decide +kernel
theorem dX7_delay_1 : decode cX7_delay 1 = .ok (.iload_n 1, 1) := by decide +kernel
theorem dX7_delay_2 : decode cX7_delay 2 = .ok (.iload_n 2, 1) := by decide +kernel
theorem dX7_delay_3 : decode cX7_delay 3 = .ok (.invokevirtual 237, 3) := by decide +kernel
theorem dX7_delay_6 : decode cX7_delay 6 = .ok (.ifCond .eq 7, 3) := by decide +kernel
theorem dX7_delay_9 : decode cX7_delay 9 = .ok (.iconst 0, 1) := by decide +kernel
theorem dX7_delay_10 : decode cX7_delay 10 = .ok (.goto 27, 3) := by decide +kernel
theorem dX7_delay_13 : decode cX7_delay 13 = .ok (.aload_n 0, 1) := by decide +kernel
theorem dX7_delay_14 : decode cX7_delay 14 = .ok (.iload_n 1, 1) := by decide +kernel
theorem dX7_delay_15 : decode cX7_delay 15 = .ok (.iload_n 2, 1) := by decide +kernel
theorem dX7_delay_16 : decode cX7_delay 16 = .ok (.invokevirtual 243, 3) := by decide +kernel
theorem dX7_delay_19 : decode cX7_delay 19 = .ok (.ifCond .eq 17, 3) := by decide +kernel
theorem dX7_delay_22 : decode cX7_delay 22 = .ok (.aload_n 0, 1) := by decide +kernel
theorem dX7_delay_23 : decode cX7_delay 23 = .ok (.getfield 22, 3) := by decide +kernel
theorem dX7_delay_26 : decode cX7_delay 26 = .ok (.bipush 8, 2) := by decide +kernel
theorem dX7_delay_28 : decode cX7_delay 28 = .ok (.iload_n 1, 1) := by decide +kernel
theorem dX7_delay_29 : decode cX7_delay 29 = .ok (.imul, 1) := by decide +kernel
theorem dX7_delay_30 : decode cX7_delay 30 = .ok (.iload_n 2, 1) := by decide +kernel
theorem dX7_delay_31 : decode cX7_delay 31 = .ok (.iadd, 1) := by decide +kernel
theorem dX7_delay_32 : decode cX7_delay 32 = .ok (.iaload, 1) := by decide +kernel
theorem dX7_delay_33 : decode cX7_delay 33 = .ok (.goto 4, 3) := by decide +kernel
theorem dX7_delay_36 : decode cX7_delay 36 = .ok (.iconst (-1), 1) := by decide +kernel
theorem dX7_delay_37 : decode cX7_delay 37 = .ok (.ireturn, 1) := by decide +kernel
theorem dX7_introductionsNeeded_0 : decode cX7_introductionsNeeded 0 = .ok (.aload_n 0, 1) := by decide +kernel
theorem dX7_introductionsNeeded_1 : decode cX7_introductionsNeeded 1 = .ok (.iload_n 1, 1) := by decide +kernel
theorem dX7_introductionsNeeded_2 : decode cX7_introductionsNeeded 2 = .ok (.iload_n 2, 1) := by decide +kernel
theorem dX7_introductionsNeeded_3 : decode cX7_introductionsNeeded 3 = .ok (.invokevirtual 246, 3) := by decide +kernel
theorem dX7_introductionsNeeded_6 : decode cX7_introductionsNeeded 6 = .ok (.ifCond .eq 5, 3) := by decide +kernel
theorem dX7_introductionsNeeded_9 : decode cX7_introductionsNeeded 9 = .ok (.iconst 0, 1) := by decide +kernel
theorem dX7_introductionsNeeded_10 : decode cX7_introductionsNeeded 10 = .ok (.ireturn, 1) := by decide +kernel
theorem dX7_introductionsNeeded_11 : decode cX7_introductionsNeeded 11 = .ok (.iconst 1, 1) := by decide +kernel
theorem dX7_introductionsNeeded_12 : decode cX7_introductionsNeeded 12 = .ok (.iload_n 1, 1) := by decide +kernel
theorem dX7_introductionsNeeded_13 : decode cX7_introductionsNeeded 13 = .ok (.ishl, 1) := by decide +kernel
theorem dX7_introductionsNeeded_14 : decode cX7_introductionsNeeded 14 = .ok (.istore_n 3, 1) := by decide +kernel
theorem dX7_introductionsNeeded_15 : decode cX7_introductionsNeeded 15 = .ok (.iconst 0, 1) := by decide +kernel
theorem dX7_introductionsNeeded_16 : decode cX7_introductionsNeeded 16 = .ok (.istore 4, 2) := by decide +kernel
theorem dX7_introductionsNeeded_18 : decode cX7_introductionsNeeded 18 = .ok (.iload 4, 2) := by decide +kernel
theorem dX7_introductionsNeeded_20 : decode cX7_introductionsNeeded 20 = .ok (.bipush 8, 2) := by decide +kernel
theorem dX7_introductionsNeeded_22 : decode cX7_introductionsNeeded 22 = .ok (.if_icmp .ge 74, 3) := by decide +kernel
theorem dX7_introductionsNeeded_25 : decode cX7_introductionsNeeded 25 = .ok (.iload_n 3, 1) := by decide +kernel
theorem dX7_introductionsNeeded_26 : decode cX7_introductionsNeeded 26 = .ok (.istore 5, 2) := by decide +kernel
theorem dX7_introductionsNeeded_28 : decode cX7_introductionsNeeded 28 = .ok (.iconst 0, 1) := by decide +kernel
theorem dX7_introductionsNeeded_29 : decode cX7_introductionsNeeded 29 = .ok (.istore 6, 2) := by decide +kernel
theorem dX7_introductionsNeeded_31 : decode cX7_introductionsNeeded 31 = .ok (.iload 6, 2) := by decide +kernel
theorem dX7_introductionsNeeded_33 : decode cX7_introductionsNeeded 33 = .ok (.aload_n 0, 1) := by decide +kernel
theorem dX7_introductionsNeeded_34 : decode cX7_introductionsNeeded 34 = .ok (.getfield 13, 3) := by decide +kernel
theorem dX7_introductionsNeeded_37 : decode cX7_introductionsNeeded 37 = .ok (.iconst 0, 1) := by decide +kernel
theorem dX7_introductionsNeeded_38 : decode cX7_introductionsNeeded 38 = .ok (.iaload, 1) := by decide +kernel
theorem dX7_introductionsNeeded_39 : decode cX7_introductionsNeeded 39 = .ok (.if_icmp .ge 36, 3) := by decide +kernel
theorem dX7_introductionsNeeded_42 : decode cX7_introductionsNeeded 42 = .ok (.iload 5, 2) := by decide +kernel
theorem dX7_introductionsNeeded_44 : decode cX7_introductionsNeeded 44 = .ok (.iload_n 3, 1) := by decide +kernel
theorem dX7_introductionsNeeded_45 : decode cX7_introductionsNeeded 45 = .ok (.iload 6, 2) := by decide +kernel
theorem dX7_introductionsNeeded_47 : decode cX7_introductionsNeeded 47 = .ok (.invokestatic 142, 3) := by decide +kernel
theorem dX7_introductionsNeeded_50 : decode cX7_introductionsNeeded 50 = .ok (.ifCond .eq 15, 3) := by decide +kernel
theorem dX7_introductionsNeeded_53 : decode cX7_introductionsNeeded 53 = .ok (.aload_n 0, 1) := by decide +kernel
theorem dX7_introductionsNeeded_54 : decode cX7_introductionsNeeded 54 = .ok (.getfield 7, 3) := by decide +kernel
theorem dX7_introductionsNeeded_57 : decode cX7_introductionsNeeded 57 = .ok (.iconst 1, 1) := by decide +kernel
theorem dX7_introductionsNeeded_58 : decode cX7_introductionsNeeded 58 = .ok (.iload 6, 2) := by decide +kernel
theorem dX7_introductionsNeeded_60 : decode cX7_introductionsNeeded 60 = .ok (.iadd, 1) := by decide +kernel
theorem dX7_introductionsNeeded_61 : decode cX7_introductionsNeeded 61 = .ok (.iaload, 1) := by decide +kernel
theorem dX7_introductionsNeeded_62 : decode cX7_introductionsNeeded 62 = .ok (.goto 4, 3) := by decide +kernel
theorem dX7_introductionsNeeded_65 : decode cX7_introductionsNeeded 65 = .ok (.iconst 0, 1) := by decide +kernel
theorem dX7_introductionsNeeded_66 : decode cX7_introductionsNeeded 66 = .ok (.ior, 1) := by decide +kernel
theorem dX7_introductionsNeeded_67 : decode cX7_introductionsNeeded 67 = .ok (.istore 5, 2) := by decide +kernel
theorem dX7_introductionsNeeded_69 : decode cX7_introductionsNeeded 69 = .ok (.iinc 6 1, 3) := by decide +kernel
theorem dX7_introductionsNeeded_72 : decode cX7_introductionsNeeded 72 = .ok (.goto (-41), 3) := by decide +kernel
theorem dX7_introductionsNeeded_75 : decode cX7_introductionsNeeded 75 = .ok (.iload 5, 2) := by decide +kernel
theorem dX7_introductionsNeeded_77 : decode cX7_introductionsNeeded 77 = .ok (.iload_n 2, 1) := by decide +kernel
theorem dX7_introductionsNeeded_78 : decode cX7_introductionsNeeded 78 = .ok (.invokestatic 142, 3) := by decide +kernel
theorem dX7_introductionsNeeded_81 : decode cX7_introductionsNeeded 81 = .ok (.ifCond .eq 6, 3) := by decide +kernel
theorem dX7_introductionsNeeded_84 : decode cX7_introductionsNeeded 84 = .ok (.iload 4, 2) := by decide +kernel
theorem dX7_introductionsNeeded_86 : decode cX7_introductionsNeeded 86 = .ok (.ireturn, 1) := by decide +kernel
theorem dX7_introductionsNeeded_87 : decode cX7_introductionsNeeded 87 = .ok (.iload 5, 2) := by decide +kernel
theorem dX7_introductionsNeeded_89 : decode cX7_introductionsNeeded 89 = .ok (.istore_n 3, 1) := by decide +kernel
theorem dX7_introductionsNeeded_90 : decode cX7_introductionsNeeded 90 = .ok (.iinc 4 1, 3) := by decide +kernel
theorem dX7_introductionsNeeded_93 : decode cX7_introductionsNeeded 93 = .ok (.goto (-75), 3) := by decide +kernel
theorem dX7_introductionsNeeded_96 : decode cX7_introductionsNeeded 96 = .ok (.iconst (-1), 1) := by decide +kernel
theorem dX7_introductionsNeeded_97 : decode cX7_introductionsNeeded 97 = .ok (.ireturn, 1) := by decide +kernel
theorem dX7_introducer_0 : decode cX7_introducer 0 = .ok (.aload_n 0, 1) := by decide +kernel
theorem dX7_introducer_1 : decode cX7_introducer 1 = .ok (.iload_n 1, 1) := by decide +kernel
theorem dX7_introducer_2 : decode cX7_introducer 2 = .ok (.iload_n 2, 1) := by decide +kernel
theorem dX7_introducer_3 : decode cX7_introducer 3 = .ok (.invokevirtual 246, 3) := by decide +kernel
theorem dX7_introducer_6 : decode cX7_introducer 6 = .ok (.ifCond .eq 5, 3) := by decide +kernel
theorem dX7_introducer_9 : decode cX7_introducer 9 = .ok (.iconst 0, 1) := by decide +kernel
theorem dX7_introducer_10 : decode cX7_introducer 10 = .ok (.ireturn, 1) := by decide +kernel
theorem dX7_introducer_11 : decode cX7_introducer 11 = .ok (.iconst 0, 1) := by decide +kernel
theorem dX7_introducer_12 : decode cX7_introducer 12 = .ok (.istore_n 3, 1) := by decide +kernel
theorem dX7_introducer_13 : decode cX7_introducer 13 = .ok (.iload_n 3, 1) := by decide +kernel
theorem dX7_introducer_14 : decode cX7_introducer 14 = .ok (.aload_n 0, 1) := by decide +kernel
theorem dX7_introducer_15 : decode cX7_introducer 15 = .ok (.getfield 13, 3) := by decide +kernel
theorem dX7_introducer_18 : decode cX7_introducer 18 = .ok (.iconst 0, 1) := by decide +kernel
theorem dX7_introducer_19 : decode cX7_introducer 19 = .ok (.iaload, 1) := by decide +kernel
theorem dX7_introducer_20 : decode cX7_introducer 20 = .ok (.if_icmp .ge 29, 3) := by decide +kernel
theorem dX7_introducer_23 : decode cX7_introducer 23 = .ok (.aload_n 0, 1) := by decide +kernel
theorem dX7_introducer_24 : decode cX7_introducer 24 = .ok (.iload_n 3, 1) := by decide +kernel
theorem dX7_introducer_25 : decode cX7_introducer 25 = .ok (.iload_n 1, 1) := by decide +kernel
theorem dX7_introducer_26 : decode cX7_introducer 26 = .ok (.invokevirtual 240, 3) := by decide +kernel
theorem dX7_introducer_29 : decode cX7_introducer 29 = .ok (.ifCond .eq 14, 3) := by decide +kernel
theorem dX7_introducer_32 : decode cX7_introducer 32 = .ok (.aload_n 0, 1) := by decide +kernel
theorem dX7_introducer_33 : decode cX7_introducer 33 = .ok (.iload_n 3, 1) := by decide +kernel
theorem dX7_introducer_34 : decode cX7_introducer 34 = .ok (.iload_n 2, 1) := by decide +kernel
theorem dX7_introducer_35 : decode cX7_introducer 35 = .ok (.invokevirtual 240, 3) := by decide +kernel
theorem dX7_introducer_38 : decode cX7_introducer 38 = .ok (.ifCond .eq 5, 3) := by decide +kernel
theorem dX7_introducer_41 : decode cX7_introducer 41 = .ok (.iload_n 3, 1) := by decide +kernel
theorem dX7_introducer_42 : decode cX7_introducer 42 = .ok (.ireturn, 1) := by decide +kernel
theorem dX7_introducer_43 : decode cX7_introducer 43 = .ok (.iinc 3 1, 3) := by decide +kernel
theorem dX7_introducer_46 : decode cX7_introducer 46 = .ok (.goto (-33), 3) := by decide +kernel
theorem dX7_introducer_49 : decode cX7_introducer 49 = .ok (.iconst (-1), 1) := by decide +kernel
theorem dX7_introducer_50 : decode cX7_introducer 50 = .ok (.ireturn, 1) := by decide +kernel
theorem dX7_of_0 : decode cX7_of 0 = .ok (.bipush 17, 2) := by decide +kernel
theorem dX7_of_2 : decode cX7_of 2 = .ok (.sipush 134, 3) := by decide +kernel
theorem dX7_of_5 : decode cX7_of 5 = .ok (.iload_n 0, 1) := by decide +kernel
theorem dX7_of_6 : decode cX7_of 6 = .ok (.imul, 1) := by decide +kernel
theorem dX7_of_7 : decode cX7_of 7 = .ok (.iadd, 1) := by decide +kernel
theorem dX7_of_8 : decode cX7_of 8 = .ok (.iload_n 1, 1) := by decide +kernel
theorem dX7_of_9 : decode cX7_of 9 = .ok (.iadd, 1) := by decide +kernel
theorem dX7_of_10 : decode cX7_of 10 = .ok (.ireturn, 1) := by decide +kernel
theorem dX7_isOpen_0 : decode cX7_isOpen 0 = .ok (.aload_n 0, 1) := by decide +kernel
theorem dX7_isOpen_1 : decode cX7_isOpen 1 = .ok (.getfield 7, 3) := by decide +kernel
theorem dX7_isOpen_4 : decode cX7_isOpen 4 = .ok (.iload_n 1, 1) := by decide +kernel
theorem dX7_isOpen_5 : decode cX7_isOpen 5 = .ok (.iconst 0, 1) := by decide +kernel
theorem dX7_isOpen_6 : decode cX7_isOpen 6 = .ok (.invokestatic 249, 3) := by decide +kernel
theorem dX7_isOpen_9 : decode cX7_isOpen 9 = .ok (.iaload, 1) := by decide +kernel
theorem dX7_isOpen_10 : decode cX7_isOpen 10 = .ok (.iconst 1, 1) := by decide +kernel
theorem dX7_isOpen_11 : decode cX7_isOpen 11 = .ok (.if_icmp .ne 7, 3) := by decide +kernel
theorem dX7_isOpen_14 : decode cX7_isOpen 14 = .ok (.iconst 1, 1) := by decide +kernel
theorem dX7_isOpen_15 : decode cX7_isOpen 15 = .ok (.goto 4, 3) := by decide +kernel
theorem dX7_isOpen_18 : decode cX7_isOpen 18 = .ok (.iconst 0, 1) := by decide +kernel
theorem dX7_isOpen_19 : decode cX7_isOpen 19 = .ok (.ireturn, 1) := by decide +kernel
theorem dX7_loadOf_0 : decode cX7_loadOf 0 = .ok (.iconst 0, 1) := by decide +kernel
theorem dX7_loadOf_1 : decode cX7_loadOf 1 = .ok (.istore_n 2, 1) := by decide +kernel
theorem dX7_loadOf_2 : decode cX7_loadOf 2 = .ok (.iconst 0, 1) := by decide +kernel
theorem dX7_loadOf_3 : decode cX7_loadOf 3 = .ok (.istore_n 3, 1) := by decide +kernel
theorem dX7_loadOf_4 : decode cX7_loadOf 4 = .ok (.iload_n 3, 1) := by decide +kernel
theorem dX7_loadOf_5 : decode cX7_loadOf 5 = .ok (.bipush 6, 2) := by decide +kernel
theorem dX7_loadOf_7 : decode cX7_loadOf 7 = .ok (.if_icmp .ge 53, 3) := by decide +kernel
theorem dX7_loadOf_10 : decode cX7_loadOf 10 = .ok (.iload_n 2, 1) := by decide +kernel
theorem dX7_loadOf_11 : decode cX7_loadOf 11 = .ok (.aload_n 0, 1) := by decide +kernel
theorem dX7_loadOf_12 : decode cX7_loadOf 12 = .ok (.iload_n 3, 1) := by decide +kernel
theorem dX7_loadOf_13 : decode cX7_loadOf 13 = .ok (.invokevirtual 253, 3) := by decide +kernel
theorem dX7_loadOf_16 : decode cX7_loadOf 16 = .ok (.ifCond .eq 35, 3) := by decide +kernel
theorem dX7_loadOf_19 : decode cX7_loadOf 19 = .ok (.aload_n 0, 1) := by decide +kernel
theorem dX7_loadOf_20 : decode cX7_loadOf 20 = .ok (.getfield 7, 3) := by decide +kernel
theorem dX7_loadOf_23 : decode cX7_loadOf 23 = .ok (.iload_n 3, 1) := by decide +kernel
theorem dX7_loadOf_24 : decode cX7_loadOf 24 = .ok (.iconst 3, 1) := by decide +kernel
theorem dX7_loadOf_25 : decode cX7_loadOf 25 = .ok (.invokestatic 249, 3) := by decide +kernel
theorem dX7_loadOf_28 : decode cX7_loadOf 28 = .ok (.iaload, 1) := by decide +kernel
theorem dX7_loadOf_29 : decode cX7_loadOf 29 = .ok (.iload_n 1, 1) := by decide +kernel
theorem dX7_loadOf_30 : decode cX7_loadOf 30 = .ok (.if_icmp .eq 17, 3) := by decide +kernel
theorem dX7_loadOf_33 : decode cX7_loadOf 33 = .ok (.aload_n 0, 1) := by decide +kernel
theorem dX7_loadOf_34 : decode cX7_loadOf 34 = .ok (.getfield 7, 3) := by decide +kernel
theorem dX7_loadOf_37 : decode cX7_loadOf 37 = .ok (.iload_n 3, 1) := by decide +kernel
theorem dX7_loadOf_38 : decode cX7_loadOf 38 = .ok (.iconst 4, 1) := by decide +kernel
theorem dX7_loadOf_39 : decode cX7_loadOf 39 = .ok (.invokestatic 249, 3) := by decide +kernel
theorem dX7_loadOf_42 : decode cX7_loadOf 42 = .ok (.iaload, 1) := by decide +kernel
theorem dX7_loadOf_43 : decode cX7_loadOf 43 = .ok (.iload_n 1, 1) := by decide +kernel
theorem dX7_loadOf_44 : decode cX7_loadOf 44 = .ok (.if_icmp .ne 7, 3) := by decide +kernel
theorem dX7_loadOf_47 : decode cX7_loadOf 47 = .ok (.iconst 1, 1) := by decide +kernel
theorem dX7_loadOf_48 : decode cX7_loadOf 48 = .ok (.goto 4, 3) := by decide +kernel
theorem dX7_loadOf_51 : decode cX7_loadOf 51 = .ok (.iconst 0, 1) := by decide +kernel
theorem dX7_loadOf_52 : decode cX7_loadOf 52 = .ok (.iadd, 1) := by decide +kernel
theorem dX7_loadOf_53 : decode cX7_loadOf 53 = .ok (.istore_n 2, 1) := by decide +kernel
theorem dX7_loadOf_54 : decode cX7_loadOf 54 = .ok (.iinc 3 1, 3) := by decide +kernel
theorem dX7_loadOf_57 : decode cX7_loadOf 57 = .ok (.goto (-53), 3) := by decide +kernel
theorem dX7_loadOf_60 : decode cX7_loadOf 60 = .ok (.iload_n 2, 1) := by decide +kernel
theorem dX7_loadOf_61 : decode cX7_loadOf 61 = .ok (.ireturn, 1) := by decide +kernel
theorem dX7_load_0 : decode cX7_load 0 = .ok (.aload_n 0, 1) := by decide +kernel
theorem dX7_load_1 : decode cX7_load 1 = .ok (.iload_n 1, 1) := by decide +kernel
theorem dX7_load_2 : decode cX7_load 2 = .ok (.iload_n 1, 1) := by decide +kernel
theorem dX7_load_3 : decode cX7_load 3 = .ok (.invokevirtual 237, 3) := by decide +kernel
theorem dX7_load_6 : decode cX7_load 6 = .ok (.ifCond .eq 7, 3) := by decide +kernel
theorem dX7_load_9 : decode cX7_load 9 = .ok (.iconst 0, 1) := by decide +kernel
theorem dX7_load_10 : decode cX7_load 10 = .ok (.goto 8, 3) := by decide +kernel
theorem dX7_load_13 : decode cX7_load 13 = .ok (.aload_n 0, 1) := by decide +kernel
theorem dX7_load_14 : decode cX7_load 14 = .ok (.iload_n 1, 1) := by decide +kernel
theorem dX7_load_15 : decode cX7_load 15 = .ok (.invokevirtual 217, 3) := by decide +kernel
theorem dX7_load_18 : decode cX7_load 18 = .ok (.ireturn, 1) := by decide +kernel
theorem dX7_canRelay_0 : decode cX7_canRelay 0 = .ok (.iload_n 1, 1) := by decide +kernel
theorem dX7_canRelay_1 : decode cX7_canRelay 1 = .ok (.iload_n 2, 1) := by decide +kernel
theorem dX7_canRelay_2 : decode cX7_canRelay 2 = .ok (.if_icmp .eq 48, 3) := by decide +kernel
theorem dX7_canRelay_5 : decode cX7_canRelay 5 = .ok (.iload_n 1, 1) := by decide +kernel
theorem dX7_canRelay_6 : decode cX7_canRelay 6 = .ok (.iload_n 3, 1) := by decide +kernel
theorem dX7_canRelay_7 : decode cX7_canRelay 7 = .ok (.if_icmp .eq 43, 3) := by decide +kernel
theorem dX7_canRelay_10 : decode cX7_canRelay 10 = .ok (.aload_n 0, 1) := by decide +kernel
theorem dX7_canRelay_11 : decode cX7_canRelay 11 = .ok (.iload_n 1, 1) := by decide +kernel
theorem dX7_canRelay_12 : decode cX7_canRelay 12 = .ok (.iload_n 2, 1) := by decide +kernel
theorem dX7_canRelay_13 : decode cX7_canRelay 13 = .ok (.invokevirtual 240, 3) := by decide +kernel
theorem dX7_canRelay_16 : decode cX7_canRelay 16 = .ok (.ifCond .eq 34, 3) := by decide +kernel
theorem dX7_canRelay_19 : decode cX7_canRelay 19 = .ok (.aload_n 0, 1) := by decide +kernel
theorem dX7_canRelay_20 : decode cX7_canRelay 20 = .ok (.iload_n 1, 1) := by decide +kernel
theorem dX7_canRelay_21 : decode cX7_canRelay 21 = .ok (.iload_n 3, 1) := by decide +kernel
theorem dX7_canRelay_22 : decode cX7_canRelay 22 = .ok (.invokevirtual 240, 3) := by decide +kernel
theorem dX7_canRelay_25 : decode cX7_canRelay 25 = .ok (.ifCond .eq 25, 3) := by decide +kernel
theorem dX7_canRelay_28 : decode cX7_canRelay 28 = .ok (.aload_n 0, 1) := by decide +kernel
theorem dX7_canRelay_29 : decode cX7_canRelay 29 = .ok (.iload_n 1, 1) := by decide +kernel
theorem dX7_canRelay_30 : decode cX7_canRelay 30 = .ok (.iload_n 2, 1) := by decide +kernel
theorem dX7_canRelay_31 : decode cX7_canRelay 31 = .ok (.invokevirtual 243, 3) := by decide +kernel
theorem dX7_canRelay_34 : decode cX7_canRelay 34 = .ok (.ifCond .eq 16, 3) := by decide +kernel
theorem dX7_canRelay_37 : decode cX7_canRelay 37 = .ok (.aload_n 0, 1) := by decide +kernel
theorem dX7_canRelay_38 : decode cX7_canRelay 38 = .ok (.iload_n 1, 1) := by decide +kernel
theorem dX7_canRelay_39 : decode cX7_canRelay 39 = .ok (.iload_n 3, 1) := by decide +kernel
theorem dX7_canRelay_40 : decode cX7_canRelay 40 = .ok (.invokevirtual 243, 3) := by decide +kernel
theorem dX7_canRelay_43 : decode cX7_canRelay 43 = .ok (.ifCond .eq 7, 3) := by decide +kernel
theorem dX7_canRelay_46 : decode cX7_canRelay 46 = .ok (.iconst 1, 1) := by decide +kernel
theorem dX7_canRelay_47 : decode cX7_canRelay 47 = .ok (.goto 4, 3) := by decide +kernel
theorem dX7_canRelay_50 : decode cX7_canRelay 50 = .ok (.iconst 0, 1) := by decide +kernel
theorem dX7_canRelay_51 : decode cX7_canRelay 51 = .ok (.ireturn, 1) := by decide +kernel
theorem dX7_bestFor_0 : decode cX7_bestFor 0 = .ok (.iconst (-1), 1) := by decide +kernel
theorem dX7_bestFor_1 : decode cX7_bestFor 1 = .ok (.istore_n 3, 1) := by decide +kernel
theorem dX7_bestFor_2 : decode cX7_bestFor 2 = .ok (.iconst 0, 1) := by decide +kernel
theorem dX7_bestFor_3 : decode cX7_bestFor 3 = .ok (.istore 4, 2) := by decide +kernel
theorem dX7_bestFor_5 : decode cX7_bestFor 5 = .ok (.iconst 0, 1) := by decide +kernel
theorem dX7_bestFor_6 : decode cX7_bestFor 6 = .ok (.istore 5, 2) := by decide +kernel
theorem dX7_bestFor_8 : decode cX7_bestFor 8 = .ok (.iload 5, 2) := by decide +kernel
theorem dX7_bestFor_10 : decode cX7_bestFor 10 = .ok (.aload_n 0, 1) := by decide +kernel
theorem dX7_bestFor_11 : decode cX7_bestFor 11 = .ok (.getfield 13, 3) := by decide +kernel
theorem dX7_bestFor_14 : decode cX7_bestFor 14 = .ok (.iconst 0, 1) := by decide +kernel
theorem dX7_bestFor_15 : decode cX7_bestFor 15 = .ok (.iaload, 1) := by decide +kernel
theorem dX7_bestFor_16 : decode cX7_bestFor 16 = .ok (.if_icmp .ge 68, 3) := by decide +kernel
theorem dX7_bestFor_19 : decode cX7_bestFor 19 = .ok (.aload_n 0, 1) := by decide +kernel
theorem dX7_bestFor_20 : decode cX7_bestFor 20 = .ok (.iload 5, 2) := by decide +kernel
theorem dX7_bestFor_22 : decode cX7_bestFor 22 = .ok (.iload_n 1, 1) := by decide +kernel
theorem dX7_bestFor_23 : decode cX7_bestFor 23 = .ok (.iload_n 2, 1) := by decide +kernel
theorem dX7_bestFor_24 : decode cX7_bestFor 24 = .ok (.invokevirtual 256, 3) := by decide +kernel
theorem dX7_bestFor_27 : decode cX7_bestFor 27 = .ok (.ifCond .eq 51, 3) := by decide +kernel
theorem dX7_bestFor_30 : decode cX7_bestFor 30 = .ok (.aload_n 0, 1) := by decide +kernel
theorem dX7_bestFor_31 : decode cX7_bestFor 31 = .ok (.iload 5, 2) := by decide +kernel
theorem dX7_bestFor_33 : decode cX7_bestFor 33 = .ok (.invokevirtual 217, 3) := by decide +kernel
theorem dX7_bestFor_36 : decode cX7_bestFor 36 = .ok (.aload_n 0, 1) := by decide +kernel
theorem dX7_bestFor_37 : decode cX7_bestFor 37 = .ok (.getfield 16, 3) := by decide +kernel
theorem dX7_bestFor_40 : decode cX7_bestFor 40 = .ok (.iload 5, 2) := by decide +kernel
theorem dX7_bestFor_42 : decode cX7_bestFor 42 = .ok (.iaload, 1) := by decide +kernel
theorem dX7_bestFor_43 : decode cX7_bestFor 43 = .ok (.if_icmp .lt 6, 3) := by decide +kernel
theorem dX7_bestFor_46 : decode cX7_bestFor 46 = .ok (.goto 32, 3) := by decide +kernel
theorem dX7_bestFor_49 : decode cX7_bestFor 49 = .ok (.aload_n 0, 1) := by decide +kernel
theorem dX7_bestFor_50 : decode cX7_bestFor 50 = .ok (.iload 5, 2) := by decide +kernel
theorem dX7_bestFor_52 : decode cX7_bestFor 52 = .ok (.iload_n 1, 1) := by decide +kernel
theorem dX7_bestFor_53 : decode cX7_bestFor 53 = .ok (.iload_n 2, 1) := by decide +kernel
theorem dX7_bestFor_54 : decode cX7_bestFor 54 = .ok (.invokevirtual 259, 3) := by decide +kernel
theorem dX7_bestFor_57 : decode cX7_bestFor 57 = .ok (.istore 6, 2) := by decide +kernel
theorem dX7_bestFor_59 : decode cX7_bestFor 59 = .ok (.iload_n 3, 1) := by decide +kernel
theorem dX7_bestFor_60 : decode cX7_bestFor 60 = .ok (.iconst (-1), 1) := by decide +kernel
theorem dX7_bestFor_61 : decode cX7_bestFor 61 = .ok (.if_icmp .eq 10, 3) := by decide +kernel
theorem dX7_bestFor_64 : decode cX7_bestFor 64 = .ok (.iload 6, 2) := by decide +kernel
theorem dX7_bestFor_66 : decode cX7_bestFor 66 = .ok (.iload 4, 2) := by decide +kernel
theorem dX7_bestFor_68 : decode cX7_bestFor 68 = .ok (.if_icmp .ge 10, 3) := by decide +kernel
theorem dX7_bestFor_71 : decode cX7_bestFor 71 = .ok (.iload 5, 2) := by decide +kernel
theorem dX7_bestFor_73 : decode cX7_bestFor 73 = .ok (.istore_n 3, 1) := by decide +kernel
theorem dX7_bestFor_74 : decode cX7_bestFor 74 = .ok (.iload 6, 2) := by decide +kernel
theorem dX7_bestFor_76 : decode cX7_bestFor 76 = .ok (.istore 4, 2) := by decide +kernel
theorem dX7_bestFor_78 : decode cX7_bestFor 78 = .ok (.iinc 5 1, 3) := by decide +kernel
theorem dX7_bestFor_81 : decode cX7_bestFor 81 = .ok (.goto (-73), 3) := by decide +kernel
theorem dX7_bestFor_84 : decode cX7_bestFor 84 = .ok (.iload_n 3, 1) := by decide +kernel
theorem dX7_bestFor_85 : decode cX7_bestFor 85 = .ok (.ireturn, 1) := by decide +kernel
theorem dX7_bestRelay_0 : decode cX7_bestRelay 0 = .ok (.aload_n 0, 1) := by decide +kernel
theorem dX7_bestRelay_1 : decode cX7_bestRelay 1 = .ok (.iload_n 1, 1) := by decide +kernel
theorem dX7_bestRelay_2 : decode cX7_bestRelay 2 = .ok (.iload_n 2, 1) := by decide +kernel
theorem dX7_bestRelay_3 : decode cX7_bestRelay 3 = .ok (.invokevirtual 246, 3) := by decide +kernel
theorem dX7_bestRelay_6 : decode cX7_bestRelay 6 = .ok (.ifCond .eq 7, 3) := by decide +kernel
theorem dX7_bestRelay_9 : decode cX7_bestRelay 9 = .ok (.iconst 0, 1) := by decide +kernel
theorem dX7_bestRelay_10 : decode cX7_bestRelay 10 = .ok (.goto 9, 3) := by decide +kernel
theorem dX7_bestRelay_13 : decode cX7_bestRelay 13 = .ok (.aload_n 0, 1) := by decide +kernel
theorem dX7_bestRelay_14 : decode cX7_bestRelay 14 = .ok (.iload_n 1, 1) := by decide +kernel
theorem dX7_bestRelay_15 : decode cX7_bestRelay 15 = .ok (.iload_n 2, 1) := by decide +kernel
theorem dX7_bestRelay_16 : decode cX7_bestRelay 16 = .ok (.invokevirtual 262, 3) := by decide +kernel
theorem dX7_bestRelay_19 : decode cX7_bestRelay 19 = .ok (.ireturn, 1) := by decide +kernel
theorem dX7_noThree_0 : decode cX7_noThree 0 = .ok (.aload_n 0, 1) := by decide +kernel
theorem dX7_noThree_1 : decode cX7_noThree 1 = .ok (.iconst 0, 1) := by decide +kernel
theorem dX7_noThree_2 : decode cX7_noThree 2 = .ok (.putfield 70, 3) := by decide +kernel
theorem dX7_noThree_5 : decode cX7_noThree 5 = .ok (.aload_n 0, 1) := by decide +kernel
theorem dX7_noThree_6 : decode cX7_noThree 6 = .ok (.iload_n 1, 1) := by decide +kernel
theorem dX7_noThree_7 : decode cX7_noThree 7 = .ok (.aload_n 0, 1) := by decide +kernel
theorem dX7_noThree_8 : decode cX7_noThree 8 = .ok (.getfield 13, 3) := by decide +kernel
theorem dX7_noThree_11 : decode cX7_noThree 11 = .ok (.iconst 0, 1) := by decide +kernel
theorem dX7_noThree_12 : decode cX7_noThree 12 = .ok (.iaload, 1) := by decide +kernel
theorem dX7_noThree_13 : decode cX7_noThree 13 = .ok (.invokevirtual 234, 3) := by decide +kernel
theorem dX7_noThree_16 : decode cX7_noThree 16 = .ok (.ifCond .ne 59, 3) := by decide +kernel
theorem dX7_noThree_19 : decode cX7_noThree 19 = .ok (.aload_n 0, 1) := by decide +kernel
theorem dX7_noThree_20 : decode cX7_noThree 20 = .ok (.iload_n 2, 1) := by decide +kernel
theorem dX7_noThree_21 : decode cX7_noThree 21 = .ok (.aload_n 0, 1) := by decide +kernel
theorem dX7_noThree_22 : decode cX7_noThree 22 = .ok (.getfield 13, 3) := by decide +kernel
theorem dX7_noThree_25 : decode cX7_noThree 25 = .ok (.iconst 0, 1) := by decide +kernel
theorem dX7_noThree_26 : decode cX7_noThree 26 = .ok (.iaload, 1) := by decide +kernel
theorem dX7_noThree_27 : decode cX7_noThree 27 = .ok (.invokevirtual 234, 3) := by decide +kernel
theorem dX7_noThree_30 : decode cX7_noThree 30 = .ok (.ifCond .ne 45, 3) := by decide +kernel
theorem dX7_noThree_33 : decode cX7_noThree 33 = .ok (.aload_n 0, 1) := by decide +kernel
theorem dX7_noThree_34 : decode cX7_noThree 34 = .ok (.iload_n 3, 1) := by decide +kernel
theorem dX7_noThree_35 : decode cX7_noThree 35 = .ok (.aload_n 0, 1) := by decide +kernel
theorem dX7_noThree_36 : decode cX7_noThree 36 = .ok (.getfield 13, 3) := by decide +kernel
theorem dX7_noThree_39 : decode cX7_noThree 39 = .ok (.iconst 0, 1) := by decide +kernel
theorem dX7_noThree_40 : decode cX7_noThree 40 = .ok (.iaload, 1) := by decide +kernel
theorem dX7_noThree_41 : decode cX7_noThree 41 = .ok (.invokevirtual 234, 3) := by decide +kernel
theorem dX7_noThree_44 : decode cX7_noThree 44 = .ok (.ifCond .ne 31, 3) := by decide +kernel
theorem dX7_noThree_47 : decode cX7_noThree 47 = .ok (.aload_n 0, 1) := by decide +kernel
theorem dX7_noThree_48 : decode cX7_noThree 48 = .ok (.iload_n 1, 1) := by decide +kernel
theorem dX7_noThree_49 : decode cX7_noThree 49 = .ok (.iload_n 2, 1) := by decide +kernel
theorem dX7_noThree_50 : decode cX7_noThree 50 = .ok (.if_icmp .eq 13, 3) := by decide +kernel
theorem dX7_noThree_53 : decode cX7_noThree 53 = .ok (.iload_n 1, 1) := by decide +kernel
theorem dX7_noThree_54 : decode cX7_noThree 54 = .ok (.iload_n 3, 1) := by decide +kernel
theorem dX7_noThree_55 : decode cX7_noThree 55 = .ok (.if_icmp .eq 8, 3) := by decide +kernel
theorem dX7_noThree_58 : decode cX7_noThree 58 = .ok (.iload_n 2, 1) := by decide +kernel
theorem dX7_noThree_59 : decode cX7_noThree 59 = .ok (.iload_n 3, 1) := by decide +kernel
theorem dX7_noThree_60 : decode cX7_noThree 60 = .ok (.if_icmp .ne 7, 3) := by decide +kernel
theorem dX7_noThree_63 : decode cX7_noThree 63 = .ok (.iconst 1, 1) := by decide +kernel
theorem dX7_noThree_64 : decode cX7_noThree 64 = .ok (.goto 4, 3) := by decide +kernel
theorem dX7_noThree_67 : decode cX7_noThree 67 = .ok (.iconst 0, 1) := by decide +kernel
theorem dX7_noThree_68 : decode cX7_noThree 68 = .ok (.iconst 2, 1) := by decide +kernel
theorem dX7_noThree_69 : decode cX7_noThree 69 = .ok (.invokevirtual 224, 3) := by decide +kernel
theorem dX7_noThree_72 : decode cX7_noThree 72 = .ok (.ifCond .eq 7, 3) := by decide +kernel
theorem dX7_noThree_75 : decode cX7_noThree 75 = .ok (.iconst 1, 1) := by decide +kernel
theorem dX7_noThree_76 : decode cX7_noThree 76 = .ok (.goto 4, 3) := by decide +kernel
theorem dX7_noThree_79 : decode cX7_noThree 79 = .ok (.iconst 0, 1) := by decide +kernel
theorem dX7_noThree_80 : decode cX7_noThree 80 = .ok (.ireturn, 1) := by decide +kernel
theorem dX7_relayScore_0 : decode cX7_relayScore 0 = .ok (.aload_n 0, 1) := by decide +kernel
theorem dX7_relayScore_1 : decode cX7_relayScore 1 = .ok (.iload_n 1, 1) := by decide +kernel
theorem dX7_relayScore_2 : decode cX7_relayScore 2 = .ok (.iload_n 2, 1) := by decide +kernel
theorem dX7_relayScore_3 : decode cX7_relayScore 3 = .ok (.iload_n 3, 1) := by decide +kernel
theorem dX7_relayScore_4 : decode cX7_relayScore 4 = .ok (.invokevirtual 265, 3) := by decide +kernel
theorem dX7_relayScore_7 : decode cX7_relayScore 7 = .ok (.ifCond .ne 26, 3) := by decide +kernel
theorem dX7_relayScore_10 : decode cX7_relayScore 10 = .ok (.aload_n 0, 1) := by decide +kernel
theorem dX7_relayScore_11 : decode cX7_relayScore 11 = .ok (.aload_n 0, 1) := by decide +kernel
theorem dX7_relayScore_12 : decode cX7_relayScore 12 = .ok (.iload_n 1, 1) := by decide +kernel
theorem dX7_relayScore_13 : decode cX7_relayScore 13 = .ok (.iload_n 2, 1) := by decide +kernel
theorem dX7_relayScore_14 : decode cX7_relayScore 14 = .ok (.iload_n 3, 1) := by decide +kernel
theorem dX7_relayScore_15 : decode cX7_relayScore 15 = .ok (.invokevirtual 256, 3) := by decide +kernel
theorem dX7_relayScore_18 : decode cX7_relayScore 18 = .ok (.ifCond .ne 7, 3) := by decide +kernel
theorem dX7_relayScore_21 : decode cX7_relayScore 21 = .ok (.iconst 1, 1) := by decide +kernel
theorem dX7_relayScore_22 : decode cX7_relayScore 22 = .ok (.goto 4, 3) := by decide +kernel
theorem dX7_relayScore_25 : decode cX7_relayScore 25 = .ok (.iconst 0, 1) := by decide +kernel
theorem dX7_relayScore_26 : decode cX7_relayScore 26 = .ok (.iconst 3, 1) := by decide +kernel
theorem dX7_relayScore_27 : decode cX7_relayScore 27 = .ok (.invokevirtual 224, 3) := by decide +kernel
theorem dX7_relayScore_30 : decode cX7_relayScore 30 = .ok (.ifCond .eq 5, 3) := by decide +kernel
theorem dX7_relayScore_33 : decode cX7_relayScore 33 = .ok (.iconst 0, 1) := by decide +kernel
theorem dX7_relayScore_34 : decode cX7_relayScore 34 = .ok (.ireturn, 1) := by decide +kernel
theorem dX7_relayScore_35 : decode cX7_relayScore 35 = .ok (.aload_n 0, 1) := by decide +kernel
theorem dX7_relayScore_36 : decode cX7_relayScore 36 = .ok (.iload_n 1, 1) := by decide +kernel
theorem dX7_relayScore_37 : decode cX7_relayScore 37 = .ok (.iload_n 2, 1) := by decide +kernel
theorem dX7_relayScore_38 : decode cX7_relayScore 38 = .ok (.iload_n 3, 1) := by decide +kernel
theorem dX7_relayScore_39 : decode cX7_relayScore 39 = .ok (.invokevirtual 259, 3) := by decide +kernel
theorem dX7_relayScore_42 : decode cX7_relayScore 42 = .ok (.ireturn, 1) := by decide +kernel
theorem dX7_sessions_0 : decode cX7_sessions 0 = .ok (.aload_n 0, 1) := by decide +kernel
theorem dX7_sessions_1 : decode cX7_sessions 1 = .ok (.iconst 0, 1) := by decide +kernel
theorem dX7_sessions_2 : decode cX7_sessions 2 = .ok (.putfield 70, 3) := by decide +kernel
theorem dX7_sessions_5 : decode cX7_sessions 5 = .ok (.iconst 0, 1) := by decide +kernel
theorem dX7_sessions_6 : decode cX7_sessions 6 = .ok (.istore_n 1, 1) := by decide +kernel
theorem dX7_sessions_7 : decode cX7_sessions 7 = .ok (.iconst 0, 1) := by decide +kernel
theorem dX7_sessions_8 : decode cX7_sessions 8 = .ok (.istore_n 2, 1) := by decide +kernel
theorem dX7_sessions_9 : decode cX7_sessions 9 = .ok (.iload_n 2, 1) := by decide +kernel
theorem dX7_sessions_10 : decode cX7_sessions 10 = .ok (.bipush 6, 2) := by decide +kernel
theorem dX7_sessions_12 : decode cX7_sessions 12 = .ok (.if_icmp .ge 27, 3) := by decide +kernel
theorem dX7_sessions_15 : decode cX7_sessions 15 = .ok (.iload_n 1, 1) := by decide +kernel
theorem dX7_sessions_16 : decode cX7_sessions 16 = .ok (.aload_n 0, 1) := by decide +kernel
theorem dX7_sessions_17 : decode cX7_sessions 17 = .ok (.iload_n 2, 1) := by decide +kernel
theorem dX7_sessions_18 : decode cX7_sessions 18 = .ok (.invokevirtual 253, 3) := by decide +kernel
theorem dX7_sessions_21 : decode cX7_sessions 21 = .ok (.ifCond .eq 9, 3) := by decide +kernel
theorem dX7_sessions_24 : decode cX7_sessions 24 = .ok (.iconst 1, 1) := by decide +kernel
theorem dX7_sessions_25 : decode cX7_sessions 25 = .ok (.iload_n 2, 1) := by decide +kernel
theorem dX7_sessions_26 : decode cX7_sessions 26 = .ok (.ishl, 1) := by decide +kernel
theorem dX7_sessions_27 : decode cX7_sessions 27 = .ok (.goto 4, 3) := by decide +kernel
theorem dX7_sessions_30 : decode cX7_sessions 30 = .ok (.iconst 0, 1) := by decide +kernel
theorem dX7_sessions_31 : decode cX7_sessions 31 = .ok (.ior, 1) := by decide +kernel
theorem dX7_sessions_32 : decode cX7_sessions 32 = .ok (.istore_n 1, 1) := by decide +kernel
theorem dX7_sessions_33 : decode cX7_sessions 33 = .ok (.iinc 2 1, 3) := by decide +kernel
theorem dX7_sessions_36 : decode cX7_sessions 36 = .ok (.goto (-27), 3) := by decide +kernel
theorem dX7_sessions_39 : decode cX7_sessions 39 = .ok (.iload_n 1, 1) := by decide +kernel
theorem dX7_sessions_40 : decode cX7_sessions 40 = .ok (.ireturn, 1) := by decide +kernel
theorem dX7_sessionOf_0 : decode cX7_sessionOf 0 = .ok (.iconst 0, 1) := by decide +kernel
theorem dX7_sessionOf_1 : decode cX7_sessionOf 1 = .ok (.istore_n 3, 1) := by decide +kernel
theorem dX7_sessionOf_2 : decode cX7_sessionOf 2 = .ok (.iload_n 3, 1) := by decide +kernel
theorem dX7_sessionOf_3 : decode cX7_sessionOf 3 = .ok (.bipush 6, 2) := by decide +kernel
theorem dX7_sessionOf_5 : decode cX7_sessionOf 5 = .ok (.if_icmp .ge 47, 3) := by decide +kernel
theorem dX7_sessionOf_8 : decode cX7_sessionOf 8 = .ok (.aload_n 0, 1) := by decide +kernel
theorem dX7_sessionOf_9 : decode cX7_sessionOf 9 = .ok (.iload_n 3, 1) := by decide +kernel
theorem dX7_sessionOf_10 : decode cX7_sessionOf 10 = .ok (.invokevirtual 253, 3) := by decide +kernel
theorem dX7_sessionOf_13 : decode cX7_sessionOf 13 = .ok (.ifCond .eq 33, 3) := by decide +kernel
theorem dX7_sessionOf_16 : decode cX7_sessionOf 16 = .ok (.aload_n 0, 1) := by decide +kernel
theorem dX7_sessionOf_17 : decode cX7_sessionOf 17 = .ok (.getfield 7, 3) := by decide +kernel
theorem dX7_sessionOf_20 : decode cX7_sessionOf 20 = .ok (.iload_n 3, 1) := by decide +kernel
theorem dX7_sessionOf_21 : decode cX7_sessionOf 21 = .ok (.iconst 1, 1) := by decide +kernel
theorem dX7_sessionOf_22 : decode cX7_sessionOf 22 = .ok (.invokestatic 249, 3) := by decide +kernel
theorem dX7_sessionOf_25 : decode cX7_sessionOf 25 = .ok (.iaload, 1) := by decide +kernel
theorem dX7_sessionOf_26 : decode cX7_sessionOf 26 = .ok (.iload_n 1, 1) := by decide +kernel
theorem dX7_sessionOf_27 : decode cX7_sessionOf 27 = .ok (.if_icmp .ne 19, 3) := by decide +kernel
theorem dX7_sessionOf_30 : decode cX7_sessionOf 30 = .ok (.aload_n 0, 1) := by decide +kernel
theorem dX7_sessionOf_31 : decode cX7_sessionOf 31 = .ok (.getfield 7, 3) := by decide +kernel
theorem dX7_sessionOf_34 : decode cX7_sessionOf 34 = .ok (.iload_n 3, 1) := by decide +kernel
theorem dX7_sessionOf_35 : decode cX7_sessionOf 35 = .ok (.iconst 2, 1) := by decide +kernel
theorem dX7_sessionOf_36 : decode cX7_sessionOf 36 = .ok (.invokestatic 249, 3) := by decide +kernel
theorem dX7_sessionOf_39 : decode cX7_sessionOf 39 = .ok (.iaload, 1) := by decide +kernel
theorem dX7_sessionOf_40 : decode cX7_sessionOf 40 = .ok (.iload_n 2, 1) := by decide +kernel
theorem dX7_sessionOf_41 : decode cX7_sessionOf 41 = .ok (.if_icmp .ne 5, 3) := by decide +kernel
theorem dX7_sessionOf_44 : decode cX7_sessionOf 44 = .ok (.iload_n 3, 1) := by decide +kernel
theorem dX7_sessionOf_45 : decode cX7_sessionOf 45 = .ok (.ireturn, 1) := by decide +kernel
theorem dX7_sessionOf_46 : decode cX7_sessionOf 46 = .ok (.iinc 3 1, 3) := by decide +kernel
theorem dX7_sessionOf_49 : decode cX7_sessionOf 49 = .ok (.goto (-47), 3) := by decide +kernel
theorem dX7_sessionOf_52 : decode cX7_sessionOf 52 = .ok (.iconst (-1), 1) := by decide +kernel
theorem dX7_sessionOf_53 : decode cX7_sessionOf 53 = .ok (.ireturn, 1) := by decide +kernel
theorem dX7_session_0 : decode cX7_session 0 = .ok (.aload_n 0, 1) := by decide +kernel
theorem dX7_session_1 : decode cX7_session 1 = .ok (.iload_n 1, 1) := by decide +kernel
theorem dX7_session_2 : decode cX7_session 2 = .ok (.iload_n 2, 1) := by decide +kernel
theorem dX7_session_3 : decode cX7_session 3 = .ok (.invokevirtual 246, 3) := by decide +kernel
theorem dX7_session_6 : decode cX7_session 6 = .ok (.ifCond .eq 7, 3) := by decide +kernel
theorem dX7_session_9 : decode cX7_session 9 = .ok (.iconst 0, 1) := by decide +kernel
theorem dX7_session_10 : decode cX7_session 10 = .ok (.goto 9, 3) := by decide +kernel
theorem dX7_session_13 : decode cX7_session 13 = .ok (.aload_n 0, 1) := by decide +kernel
theorem dX7_session_14 : decode cX7_session 14 = .ok (.iload_n 1, 1) := by decide +kernel
theorem dX7_session_15 : decode cX7_session 15 = .ok (.iload_n 2, 1) := by decide +kernel
theorem dX7_session_16 : decode cX7_session 16 = .ok (.invokevirtual 268, 3) := by decide +kernel
theorem dX7_session_19 : decode cX7_session 19 = .ok (.ireturn, 1) := by decide +kernel
theorem dX7_noSession_0 : decode cX7_noSession 0 = .ok (.aload_n 0, 1) := by decide +kernel
theorem dX7_noSession_1 : decode cX7_noSession 1 = .ok (.iconst 0, 1) := by decide +kernel
theorem dX7_noSession_2 : decode cX7_noSession 2 = .ok (.putfield 70, 3) := by decide +kernel
theorem dX7_noSession_5 : decode cX7_noSession 5 = .ok (.aload_n 0, 1) := by decide +kernel
theorem dX7_noSession_6 : decode cX7_noSession 6 = .ok (.iload_n 1, 1) := by decide +kernel
theorem dX7_noSession_7 : decode cX7_noSession 7 = .ok (.bipush 6, 2) := by decide +kernel
theorem dX7_noSession_9 : decode cX7_noSession 9 = .ok (.invokevirtual 234, 3) := by decide +kernel
theorem dX7_noSession_12 : decode cX7_noSession 12 = .ok (.ifCond .ne 24, 3) := by decide +kernel
theorem dX7_noSession_15 : decode cX7_noSession 15 = .ok (.aload_n 0, 1) := by decide +kernel
theorem dX7_noSession_16 : decode cX7_noSession 16 = .ok (.aload_n 0, 1) := by decide +kernel
theorem dX7_noSession_17 : decode cX7_noSession 17 = .ok (.iload_n 1, 1) := by decide +kernel
theorem dX7_noSession_18 : decode cX7_noSession 18 = .ok (.invokevirtual 253, 3) := by decide +kernel
theorem dX7_noSession_21 : decode cX7_noSession 21 = .ok (.ifCond .ne 7, 3) := by decide +kernel
theorem dX7_noSession_24 : decode cX7_noSession 24 = .ok (.iconst 1, 1) := by decide +kernel
theorem dX7_noSession_25 : decode cX7_noSession 25 = .ok (.goto 4, 3) := by decide +kernel
theorem dX7_noSession_28 : decode cX7_noSession 28 = .ok (.iconst 0, 1) := by decide +kernel
theorem dX7_noSession_29 : decode cX7_noSession 29 = .ok (.iconst 1, 1) := by decide +kernel
theorem dX7_noSession_30 : decode cX7_noSession 30 = .ok (.invokevirtual 224, 3) := by decide +kernel
theorem dX7_noSession_33 : decode cX7_noSession 33 = .ok (.ifCond .eq 7, 3) := by decide +kernel
theorem dX7_noSession_36 : decode cX7_noSession 36 = .ok (.iconst 1, 1) := by decide +kernel
theorem dX7_noSession_37 : decode cX7_noSession 37 = .ok (.goto 4, 3) := by decide +kernel
theorem dX7_noSession_40 : decode cX7_noSession 40 = .ok (.iconst 0, 1) := by decide +kernel
theorem dX7_noSession_41 : decode cX7_noSession 41 = .ok (.ireturn, 1) := by decide +kernel
theorem dX7_asked_0 : decode cX7_asked 0 = .ok (.aload_n 0, 1) := by decide +kernel
theorem dX7_asked_1 : decode cX7_asked 1 = .ok (.iload_n 1, 1) := by decide +kernel
theorem dX7_asked_2 : decode cX7_asked 2 = .ok (.invokevirtual 271, 3) := by decide +kernel
theorem dX7_asked_5 : decode cX7_asked 5 = .ok (.ifCond .eq 7, 3) := by decide +kernel
theorem dX7_asked_8 : decode cX7_asked 8 = .ok (.iconst 0, 1) := by decide +kernel
theorem dX7_asked_9 : decode cX7_asked 9 = .ok (.goto 13, 3) := by decide +kernel
theorem dX7_asked_12 : decode cX7_asked 12 = .ok (.aload_n 0, 1) := by decide +kernel
theorem dX7_asked_13 : decode cX7_asked 13 = .ok (.getfield 7, 3) := by decide +kernel
theorem dX7_asked_16 : decode cX7_asked 16 = .ok (.iload_n 1, 1) := by decide +kernel
theorem dX7_asked_17 : decode cX7_asked 17 = .ok (.iload_n 2, 1) := by decide +kernel
theorem dX7_asked_18 : decode cX7_asked 18 = .ok (.invokestatic 249, 3) := by decide +kernel
theorem dX7_asked_21 : decode cX7_asked 21 = .ok (.iaload, 1) := by decide +kernel
theorem dX7_asked_22 : decode cX7_asked 22 = .ok (.ireturn, 1) := by decide +kernel
theorem dX7_path_0 : decode cX7_path 0 = .ok (.aload_n 0, 1) := by decide +kernel
theorem dX7_path_1 : decode cX7_path 1 = .ok (.iload_n 1, 1) := by decide +kernel
theorem dX7_path_2 : decode cX7_path 2 = .ok (.iconst 3, 1) := by decide +kernel
theorem dX7_path_3 : decode cX7_path 3 = .ok (.invokevirtual 274, 3) := by decide +kernel
theorem dX7_path_6 : decode cX7_path 6 = .ok (.ireturn, 1) := by decide +kernel
theorem dX7_oldPath_0 : decode cX7_oldPath 0 = .ok (.aload_n 0, 1) := by decide +kernel
theorem dX7_oldPath_1 : decode cX7_oldPath 1 = .ok (.iload_n 1, 1) := by decide +kernel
theorem dX7_oldPath_2 : decode cX7_oldPath 2 = .ok (.iconst 4, 1) := by decide +kernel
theorem dX7_oldPath_3 : decode cX7_oldPath 3 = .ok (.invokevirtual 274, 3) := by decide +kernel
theorem dX7_oldPath_6 : decode cX7_oldPath 6 = .ok (.ireturn, 1) := by decide +kernel
theorem dX7_successes_0 : decode cX7_successes 0 = .ok (.aload_n 0, 1) := by decide +kernel
theorem dX7_successes_1 : decode cX7_successes 1 = .ok (.iload_n 1, 1) := by decide +kernel
theorem dX7_successes_2 : decode cX7_successes 2 = .ok (.iconst 5, 1) := by decide +kernel
theorem dX7_successes_3 : decode cX7_successes 3 = .ok (.invokevirtual 274, 3) := by decide +kernel
theorem dX7_successes_6 : decode cX7_successes 6 = .ok (.ireturn, 1) := by decide +kernel
theorem dX7_undelivered_0 : decode cX7_undelivered 0 = .ok (.aload_n 0, 1) := by decide +kernel
theorem dX7_undelivered_1 : decode cX7_undelivered 1 = .ok (.getfield 7, 3) := by decide +kernel
theorem dX7_undelivered_4 : decode cX7_undelivered 4 = .ok (.iload_n 1, 1) := by decide +kernel
theorem dX7_undelivered_5 : decode cX7_undelivered 5 = .ok (.bipush 7, 2) := by decide +kernel
theorem dX7_undelivered_7 : decode cX7_undelivered 7 = .ok (.invokestatic 249, 3) := by decide +kernel
theorem dX7_undelivered_10 : decode cX7_undelivered 10 = .ok (.iaload, 1) := by decide +kernel
theorem dX7_undelivered_11 : decode cX7_undelivered 11 = .ok (.aload_n 0, 1) := by decide +kernel
theorem dX7_undelivered_12 : decode cX7_undelivered 12 = .ok (.getfield 7, 3) := by decide +kernel
theorem dX7_undelivered_15 : decode cX7_undelivered 15 = .ok (.iload_n 1, 1) := by decide +kernel
theorem dX7_undelivered_16 : decode cX7_undelivered 16 = .ok (.bipush 8, 2) := by decide +kernel
theorem dX7_undelivered_18 : decode cX7_undelivered 18 = .ok (.invokestatic 249, 3) := by decide +kernel
theorem dX7_undelivered_21 : decode cX7_undelivered 21 = .ok (.iaload, 1) := by decide +kernel
theorem dX7_undelivered_22 : decode cX7_undelivered 22 = .ok (.isub, 1) := by decide +kernel
theorem dX7_undelivered_23 : decode cX7_undelivered 23 = .ok (.ireturn, 1) := by decide +kernel
theorem dX7_message_0 : decode cX7_message 0 = .ok (.iload_n 0, 1) := by decide +kernel
theorem dX7_message_1 : decode cX7_message 1 = .ok (.bipush 14, 2) := by decide +kernel
theorem dX7_message_3 : decode cX7_message 3 = .ok (.invokestatic 249, 3) := by decide +kernel
theorem dX7_message_6 : decode cX7_message 6 = .ok (.iconst 5, 1) := by decide +kernel
theorem dX7_message_7 : decode cX7_message 7 = .ok (.iload_n 1, 1) := by decide +kernel
theorem dX7_message_8 : decode cX7_message 8 = .ok (.imul, 1) := by decide +kernel
theorem dX7_message_9 : decode cX7_message 9 = .ok (.iadd, 1) := by decide +kernel
theorem dX7_message_10 : decode cX7_message 10 = .ok (.ireturn, 1) := by decide +kernel
theorem dX7_inState_0 : decode cX7_inState 0 = .ok (.iconst 0, 1) := by decide +kernel
theorem dX7_inState_1 : decode cX7_inState 1 = .ok (.istore_n 3, 1) := by decide +kernel
theorem dX7_inState_2 : decode cX7_inState 2 = .ok (.iconst 0, 1) := by decide +kernel
theorem dX7_inState_3 : decode cX7_inState 3 = .ok (.istore 4, 2) := by decide +kernel
theorem dX7_inState_5 : decode cX7_inState 5 = .ok (.iload 4, 2) := by decide +kernel
theorem dX7_inState_7 : decode cX7_inState 7 = .ok (.aload_n 0, 1) := by decide +kernel
theorem dX7_inState_8 : decode cX7_inState 8 = .ok (.iload_n 1, 1) := by decide +kernel
theorem dX7_inState_9 : decode cX7_inState 9 = .ok (.invokevirtual 277, 3) := by decide +kernel
theorem dX7_inState_12 : decode cX7_inState 12 = .ok (.if_icmp .ge 34, 3) := by decide +kernel
theorem dX7_inState_15 : decode cX7_inState 15 = .ok (.iload_n 3, 1) := by decide +kernel
theorem dX7_inState_16 : decode cX7_inState 16 = .ok (.aload_n 0, 1) := by decide +kernel
theorem dX7_inState_17 : decode cX7_inState 17 = .ok (.getfield 7, 3) := by decide +kernel
theorem dX7_inState_20 : decode cX7_inState 20 = .ok (.iload_n 1, 1) := by decide +kernel
theorem dX7_inState_21 : decode cX7_inState 21 = .ok (.iload 4, 2) := by decide +kernel
theorem dX7_inState_23 : decode cX7_inState 23 = .ok (.invokestatic 280, 3) := by decide +kernel
theorem dX7_inState_26 : decode cX7_inState 26 = .ok (.iconst 0, 1) := by decide +kernel
theorem dX7_inState_27 : decode cX7_inState 27 = .ok (.iadd, 1) := by decide +kernel
theorem dX7_inState_28 : decode cX7_inState 28 = .ok (.iaload, 1) := by decide +kernel
theorem dX7_inState_29 : decode cX7_inState 29 = .ok (.iload_n 2, 1) := by decide +kernel
theorem dX7_inState_30 : decode cX7_inState 30 = .ok (.if_icmp .ne 7, 3) := by decide +kernel
theorem dX7_inState_33 : decode cX7_inState 33 = .ok (.iconst 1, 1) := by decide +kernel
theorem dX7_inState_34 : decode cX7_inState 34 = .ok (.goto 4, 3) := by decide +kernel
theorem dX7_inState_37 : decode cX7_inState 37 = .ok (.iconst 0, 1) := by decide +kernel
theorem dX7_inState_38 : decode cX7_inState 38 = .ok (.iadd, 1) := by decide +kernel
theorem dX7_inState_39 : decode cX7_inState 39 = .ok (.istore_n 3, 1) := by decide +kernel
theorem dX7_inState_40 : decode cX7_inState 40 = .ok (.iinc 4 1, 3) := by decide +kernel
theorem dX7_inState_43 : decode cX7_inState 43 = .ok (.goto (-38), 3) := by decide +kernel
theorem dX7_inState_46 : decode cX7_inState 46 = .ok (.iload_n 3, 1) := by decide +kernel
theorem dX7_inState_47 : decode cX7_inState 47 = .ok (.ireturn, 1) := by decide +kernel
theorem dX7_messages_0 : decode cX7_messages 0 = .ok (.aload_n 0, 1) := by decide +kernel
theorem dX7_messages_1 : decode cX7_messages 1 = .ok (.iload_n 1, 1) := by decide +kernel
theorem dX7_messages_2 : decode cX7_messages 2 = .ok (.invokevirtual 271, 3) := by decide +kernel
theorem dX7_messages_5 : decode cX7_messages 5 = .ok (.ifCond .ne 25, 3) := by decide +kernel
theorem dX7_messages_8 : decode cX7_messages 8 = .ok (.aload_n 0, 1) := by decide +kernel
theorem dX7_messages_9 : decode cX7_messages 9 = .ok (.iload_n 2, 1) := by decide +kernel
theorem dX7_messages_10 : decode cX7_messages 10 = .ok (.iconst 0, 1) := by decide +kernel
theorem dX7_messages_11 : decode cX7_messages 11 = .ok (.iconst 3, 1) := by decide +kernel
theorem dX7_messages_12 : decode cX7_messages 12 = .ok (.invokestatic 107, 3) := by decide +kernel
theorem dX7_messages_15 : decode cX7_messages 15 = .ok (.ifCond .ne 7, 3) := by decide +kernel
theorem dX7_messages_18 : decode cX7_messages 18 = .ok (.iconst 1, 1) := by decide +kernel
theorem dX7_messages_19 : decode cX7_messages 19 = .ok (.goto 4, 3) := by decide +kernel
theorem dX7_messages_22 : decode cX7_messages 22 = .ok (.iconst 0, 1) := by decide +kernel
theorem dX7_messages_23 : decode cX7_messages 23 = .ok (.iconst 2, 1) := by decide +kernel
theorem dX7_messages_24 : decode cX7_messages 24 = .ok (.invokevirtual 224, 3) := by decide +kernel
theorem dX7_messages_27 : decode cX7_messages 27 = .ok (.ifCond .eq 5, 3) := by decide +kernel
theorem dX7_messages_30 : decode cX7_messages 30 = .ok (.iconst 0, 1) := by decide +kernel
theorem dX7_messages_31 : decode cX7_messages 31 = .ok (.ireturn, 1) := by decide +kernel
theorem dX7_messages_32 : decode cX7_messages 32 = .ok (.iload_n 2, 1) := by decide +kernel
theorem dX7_messages_33 : decode cX7_messages 33 = .ok (.iconst 3, 1) := by decide +kernel
theorem dX7_messages_34 : decode cX7_messages 34 = .ok (.if_icmp .ne 17, 3) := by decide +kernel
theorem dX7_messages_37 : decode cX7_messages 37 = .ok (.aload_n 0, 1) := by decide +kernel
theorem dX7_messages_38 : decode cX7_messages 38 = .ok (.getfield 7, 3) := by decide +kernel
theorem dX7_messages_41 : decode cX7_messages 41 = .ok (.iload_n 1, 1) := by decide +kernel
theorem dX7_messages_42 : decode cX7_messages 42 = .ok (.bipush 8, 2) := by decide +kernel
theorem dX7_messages_44 : decode cX7_messages 44 = .ok (.invokestatic 249, 3) := by decide +kernel
theorem dX7_messages_47 : decode cX7_messages 47 = .ok (.iaload, 1) := by decide +kernel
theorem dX7_messages_48 : decode cX7_messages 48 = .ok (.goto 9, 3) := by decide +kernel
theorem dX7_messages_51 : decode cX7_messages 51 = .ok (.aload_n 0, 1) := by decide +kernel
theorem dX7_messages_52 : decode cX7_messages 52 = .ok (.iload_n 1, 1) := by decide +kernel
theorem dX7_messages_53 : decode cX7_messages 53 = .ok (.iload_n 2, 1) := by decide +kernel
theorem dX7_messages_54 : decode cX7_messages 54 = .ok (.invokevirtual 283, 3) := by decide +kernel
theorem dX7_messages_57 : decode cX7_messages 57 = .ok (.ireturn, 1) := by decide +kernel
theorem dX7_lastValue_0 : decode cX7_lastValue 0 = .ok (.aload_n 0, 1) := by decide +kernel
theorem dX7_lastValue_1 : decode cX7_lastValue 1 = .ok (.iload_n 1, 1) := by decide +kernel
theorem dX7_lastValue_2 : decode cX7_lastValue 2 = .ok (.invokevirtual 271, 3) := by decide +kernel
theorem dX7_lastValue_5 : decode cX7_lastValue 5 = .ok (.ifCond .ne 30, 3) := by decide +kernel
theorem dX7_lastValue_8 : decode cX7_lastValue 8 = .ok (.aload_n 0, 1) := by decide +kernel
theorem dX7_lastValue_9 : decode cX7_lastValue 9 = .ok (.aload_n 0, 1) := by decide +kernel
theorem dX7_lastValue_10 : decode cX7_lastValue 10 = .ok (.getfield 7, 3) := by decide +kernel
theorem dX7_lastValue_13 : decode cX7_lastValue 13 = .ok (.iload_n 1, 1) := by decide +kernel
theorem dX7_lastValue_14 : decode cX7_lastValue 14 = .ok (.bipush 8, 2) := by decide +kernel
theorem dX7_lastValue_16 : decode cX7_lastValue 16 = .ok (.invokestatic 249, 3) := by decide +kernel
theorem dX7_lastValue_19 : decode cX7_lastValue 19 = .ok (.iaload, 1) := by decide +kernel
theorem dX7_lastValue_20 : decode cX7_lastValue 20 = .ok (.ifCond .ne 7, 3) := by decide +kernel
theorem dX7_lastValue_23 : decode cX7_lastValue 23 = .ok (.iconst 1, 1) := by decide +kernel
theorem dX7_lastValue_24 : decode cX7_lastValue 24 = .ok (.goto 4, 3) := by decide +kernel
theorem dX7_lastValue_27 : decode cX7_lastValue 27 = .ok (.iconst 0, 1) := by decide +kernel
theorem dX7_lastValue_28 : decode cX7_lastValue 28 = .ok (.iconst 2, 1) := by decide +kernel
theorem dX7_lastValue_29 : decode cX7_lastValue 29 = .ok (.invokevirtual 224, 3) := by decide +kernel
theorem dX7_lastValue_32 : decode cX7_lastValue 32 = .ok (.ifCond .eq 7, 3) := by decide +kernel
theorem dX7_lastValue_35 : decode cX7_lastValue 35 = .ok (.iconst 0, 1) := by decide +kernel
theorem dX7_lastValue_36 : decode cX7_lastValue 36 = .ok (.goto 14, 3) := by decide +kernel
theorem dX7_lastValue_39 : decode cX7_lastValue 39 = .ok (.aload_n 0, 1) := by decide +kernel
theorem dX7_lastValue_40 : decode cX7_lastValue 40 = .ok (.getfield 7, 3) := by decide +kernel
theorem dX7_lastValue_43 : decode cX7_lastValue 43 = .ok (.iload_n 1, 1) := by decide +kernel
theorem dX7_lastValue_44 : decode cX7_lastValue 44 = .ok (.bipush 10, 2) := by decide +kernel
theorem dX7_lastValue_46 : decode cX7_lastValue 46 = .ok (.invokestatic 249, 3) := by decide +kernel
theorem dX7_lastValue_49 : decode cX7_lastValue 49 = .ok (.iaload, 1) := by decide +kernel
theorem dX7_lastValue_50 : decode cX7_lastValue 50 = .ok (.ireturn, 1) := by decide +kernel
theorem dX7_digest_0 : decode cX7_digest 0 = .ok (.aload_n 0, 1) := by decide +kernel
theorem dX7_digest_1 : decode cX7_digest 1 = .ok (.iload_n 1, 1) := by decide +kernel
theorem dX7_digest_2 : decode cX7_digest 2 = .ok (.bipush 9, 2) := by decide +kernel
theorem dX7_digest_4 : decode cX7_digest 4 = .ok (.invokevirtual 274, 3) := by decide +kernel
theorem dX7_digest_7 : decode cX7_digest 7 = .ok (.ireturn, 1) := by decide +kernel
theorem dX7_key_0 : decode cX7_key 0 = .ok (.aload_n 0, 1) := by decide +kernel
theorem dX7_key_1 : decode cX7_key 1 = .ok (.iload_n 1, 1) := by decide +kernel
theorem dX7_key_2 : decode cX7_key 2 = .ok (.bipush 11, 2) := by decide +kernel
theorem dX7_key_4 : decode cX7_key 4 = .ok (.invokevirtual 274, 3) := by decide +kernel
theorem dX7_key_7 : decode cX7_key 7 = .ok (.ireturn, 1) := by decide +kernel
theorem dX7_oldestKey_0 : decode cX7_oldestKey 0 = .ok (.aload_n 0, 1) := by decide +kernel
theorem dX7_oldestKey_1 : decode cX7_oldestKey 1 = .ok (.iload_n 1, 1) := by decide +kernel
theorem dX7_oldestKey_2 : decode cX7_oldestKey 2 = .ok (.invokevirtual 271, 3) := by decide +kernel
theorem dX7_oldestKey_5 : decode cX7_oldestKey 5 = .ok (.ifCond .eq 7, 3) := by decide +kernel
theorem dX7_oldestKey_8 : decode cX7_oldestKey 8 = .ok (.iconst 0, 1) := by decide +kernel
theorem dX7_oldestKey_9 : decode cX7_oldestKey 9 = .ok (.goto 37, 3) := by decide +kernel
theorem dX7_oldestKey_12 : decode cX7_oldestKey 12 = .ok (.aload_n 0, 1) := by decide +kernel
theorem dX7_oldestKey_13 : decode cX7_oldestKey 13 = .ok (.iload_n 1, 1) := by decide +kernel
theorem dX7_oldestKey_14 : decode cX7_oldestKey 14 = .ok (.invokevirtual 277, 3) := by decide +kernel
theorem dX7_oldestKey_17 : decode cX7_oldestKey 17 = .ok (.ifCond .le 18, 3) := by decide +kernel
theorem dX7_oldestKey_20 : decode cX7_oldestKey 20 = .ok (.aload_n 0, 1) := by decide +kernel
theorem dX7_oldestKey_21 : decode cX7_oldestKey 21 = .ok (.getfield 7, 3) := by decide +kernel
theorem dX7_oldestKey_24 : decode cX7_oldestKey 24 = .ok (.iload_n 1, 1) := by decide +kernel
theorem dX7_oldestKey_25 : decode cX7_oldestKey 25 = .ok (.iconst 0, 1) := by decide +kernel
theorem dX7_oldestKey_26 : decode cX7_oldestKey 26 = .ok (.invokestatic 280, 3) := by decide +kernel
theorem dX7_oldestKey_29 : decode cX7_oldestKey 29 = .ok (.iconst 2, 1) := by decide +kernel
theorem dX7_oldestKey_30 : decode cX7_oldestKey 30 = .ok (.iadd, 1) := by decide +kernel
theorem dX7_oldestKey_31 : decode cX7_oldestKey 31 = .ok (.iaload, 1) := by decide +kernel
theorem dX7_oldestKey_32 : decode cX7_oldestKey 32 = .ok (.goto 14, 3) := by decide +kernel
theorem dX7_oldestKey_35 : decode cX7_oldestKey 35 = .ok (.aload_n 0, 1) := by decide +kernel
theorem dX7_oldestKey_36 : decode cX7_oldestKey 36 = .ok (.getfield 7, 3) := by decide +kernel
theorem dX7_oldestKey_39 : decode cX7_oldestKey 39 = .ok (.iload_n 1, 1) := by decide +kernel
theorem dX7_oldestKey_40 : decode cX7_oldestKey 40 = .ok (.bipush 11, 2) := by decide +kernel
theorem dX7_oldestKey_42 : decode cX7_oldestKey 42 = .ok (.invokestatic 249, 3) := by decide +kernel
theorem dX7_oldestKey_45 : decode cX7_oldestKey 45 = .ok (.iaload, 1) := by decide +kernel
theorem dX7_oldestKey_46 : decode cX7_oldestKey 46 = .ok (.ireturn, 1) := by decide +kernel
theorem dX7_keyStart_0 : decode cX7_keyStart 0 = .ok (.aload_n 0, 1) := by decide +kernel
theorem dX7_keyStart_1 : decode cX7_keyStart 1 = .ok (.iload_n 1, 1) := by decide +kernel
theorem dX7_keyStart_2 : decode cX7_keyStart 2 = .ok (.bipush 13, 2) := by decide +kernel
theorem dX7_keyStart_4 : decode cX7_keyStart 4 = .ok (.invokevirtual 274, 3) := by decide +kernel
theorem dX7_keyStart_7 : decode cX7_keyStart 7 = .ok (.ireturn, 1) := by decide +kernel
theorem dX7_turnsKey_0 : decode cX7_turnsKey 0 = .ok (.aload_n 0, 1) := by decide +kernel
theorem dX7_turnsKey_1 : decode cX7_turnsKey 1 = .ok (.getfield 7, 3) := by decide +kernel
theorem dX7_turnsKey_4 : decode cX7_turnsKey 4 = .ok (.iload_n 1, 1) := by decide +kernel
theorem dX7_turnsKey_5 : decode cX7_turnsKey 5 = .ok (.bipush 11, 2) := by decide +kernel
theorem dX7_turnsKey_7 : decode cX7_turnsKey 7 = .ok (.invokestatic 249, 3) := by decide +kernel
theorem dX7_turnsKey_10 : decode cX7_turnsKey 10 = .ok (.dup2, 1) := by decide +kernel
theorem dX7_turnsKey_11 : decode cX7_turnsKey 11 = .ok (.iaload, 1) := by decide +kernel
theorem dX7_turnsKey_12 : decode cX7_turnsKey 12 = .ok (.iconst 1, 1) := by decide +kernel
theorem dX7_turnsKey_13 : decode cX7_turnsKey 13 = .ok (.iadd, 1) := by decide +kernel
theorem dX7_turnsKey_14 : decode cX7_turnsKey 14 = .ok (.iastore, 1) := by decide +kernel
theorem dX7_turnsKey_15 : decode cX7_turnsKey 15 = .ok (.aload_n 0, 1) := by decide +kernel
theorem dX7_turnsKey_16 : decode cX7_turnsKey 16 = .ok (.getfield 7, 3) := by decide +kernel
theorem dX7_turnsKey_19 : decode cX7_turnsKey 19 = .ok (.iload_n 1, 1) := by decide +kernel
theorem dX7_turnsKey_20 : decode cX7_turnsKey 20 = .ok (.bipush 12, 2) := by decide +kernel
theorem dX7_turnsKey_22 : decode cX7_turnsKey 22 = .ok (.invokestatic 249, 3) := by decide +kernel
theorem dX7_turnsKey_25 : decode cX7_turnsKey 25 = .ok (.iconst 0, 1) := by decide +kernel
theorem dX7_turnsKey_26 : decode cX7_turnsKey 26 = .ok (.iastore, 1) := by decide +kernel
theorem dX7_turnsKey_27 : decode cX7_turnsKey 27 = .ok (.aload_n 0, 1) := by decide +kernel
theorem dX7_turnsKey_28 : decode cX7_turnsKey 28 = .ok (.getfield 7, 3) := by decide +kernel
theorem dX7_turnsKey_31 : decode cX7_turnsKey 31 = .ok (.iload_n 1, 1) := by decide +kernel
theorem dX7_turnsKey_32 : decode cX7_turnsKey 32 = .ok (.bipush 13, 2) := by decide +kernel
theorem dX7_turnsKey_34 : decode cX7_turnsKey 34 = .ok (.invokestatic 249, 3) := by decide +kernel
theorem dX7_turnsKey_37 : decode cX7_turnsKey 37 = .ok (.aload_n 0, 1) := by decide +kernel
theorem dX7_turnsKey_38 : decode cX7_turnsKey 38 = .ok (.getfield 7, 3) := by decide +kernel
theorem dX7_turnsKey_41 : decode cX7_turnsKey 41 = .ok (.iload_n 1, 1) := by decide +kernel
theorem dX7_turnsKey_42 : decode cX7_turnsKey 42 = .ok (.bipush 7, 2) := by decide +kernel
theorem dX7_turnsKey_44 : decode cX7_turnsKey 44 = .ok (.invokestatic 249, 3) := by decide +kernel
theorem dX7_turnsKey_47 : decode cX7_turnsKey 47 = .ok (.iaload, 1) := by decide +kernel
theorem dX7_turnsKey_48 : decode cX7_turnsKey 48 = .ok (.iastore, 1) := by decide +kernel
theorem dX7_turnsKey_49 : decode cX7_turnsKey 49 = .ok (.return_, 1) := by decide +kernel
theorem dX7_delayBy_0 : decode cX7_delayBy 0 = .ok (.aload_n 0, 1) := by decide +kernel
theorem dX7_delayBy_1 : decode cX7_delayBy 1 = .ok (.getfield 7, 3) := by decide +kernel
theorem dX7_delayBy_4 : decode cX7_delayBy 4 = .ok (.iload_n 1, 1) := by decide +kernel
theorem dX7_delayBy_5 : decode cX7_delayBy 5 = .ok (.iconst 1, 1) := by decide +kernel
theorem dX7_delayBy_6 : decode cX7_delayBy 6 = .ok (.invokestatic 249, 3) := by decide +kernel
theorem dX7_delayBy_9 : decode cX7_delayBy 9 = .ok (.iaload, 1) := by decide +kernel
theorem dX7_delayBy_10 : decode cX7_delayBy 10 = .ok (.istore_n 3, 1) := by decide +kernel
theorem dX7_delayBy_11 : decode cX7_delayBy 11 = .ok (.aload_n 0, 1) := by decide +kernel
theorem dX7_delayBy_12 : decode cX7_delayBy 12 = .ok (.getfield 7, 3) := by decide +kernel
theorem dX7_delayBy_15 : decode cX7_delayBy 15 = .ok (.iload_n 1, 1) := by decide +kernel
theorem dX7_delayBy_16 : decode cX7_delayBy 16 = .ok (.iconst 2, 1) := by decide +kernel
theorem dX7_delayBy_17 : decode cX7_delayBy 17 = .ok (.invokestatic 249, 3) := by decide +kernel
theorem dX7_delayBy_20 : decode cX7_delayBy 20 = .ok (.iaload, 1) := by decide +kernel
theorem dX7_delayBy_21 : decode cX7_delayBy 21 = .ok (.istore 4, 2) := by decide +kernel
theorem dX7_delayBy_23 : decode cX7_delayBy 23 = .ok (.iload_n 2, 1) := by decide +kernel
theorem dX7_delayBy_24 : decode cX7_delayBy 24 = .ok (.bipush 100, 2) := by decide +kernel
theorem dX7_delayBy_26 : decode cX7_delayBy 26 = .ok (.if_icmp .ne 18, 3) := by decide +kernel
theorem dX7_delayBy_29 : decode cX7_delayBy 29 = .ok (.aload_n 0, 1) := by decide +kernel
theorem dX7_delayBy_30 : decode cX7_delayBy 30 = .ok (.getfield 22, 3) := by decide +kernel
theorem dX7_delayBy_33 : decode cX7_delayBy 33 = .ok (.bipush 8, 2) := by decide +kernel
theorem dX7_delayBy_35 : decode cX7_delayBy 35 = .ok (.iload_n 3, 1) := by decide +kernel
theorem dX7_delayBy_36 : decode cX7_delayBy 36 = .ok (.imul, 1) := by decide +kernel
theorem dX7_delayBy_37 : decode cX7_delayBy 37 = .ok (.iload 4, 2) := by decide +kernel
theorem dX7_delayBy_39 : decode cX7_delayBy 39 = .ok (.iadd, 1) := by decide +kernel
theorem dX7_delayBy_40 : decode cX7_delayBy 40 = .ok (.iaload, 1) := by decide +kernel
theorem dX7_delayBy_41 : decode cX7_delayBy 41 = .ok (.goto 27, 3) := by decide +kernel
theorem dX7_delayBy_44 : decode cX7_delayBy 44 = .ok (.aload_n 0, 1) := by decide +kernel
theorem dX7_delayBy_45 : decode cX7_delayBy 45 = .ok (.getfield 22, 3) := by decide +kernel
theorem dX7_delayBy_48 : decode cX7_delayBy 48 = .ok (.bipush 8, 2) := by decide +kernel
theorem dX7_delayBy_50 : decode cX7_delayBy 50 = .ok (.iload_n 3, 1) := by decide +kernel
theorem dX7_delayBy_51 : decode cX7_delayBy 51 = .ok (.imul, 1) := by decide +kernel
theorem dX7_delayBy_52 : decode cX7_delayBy 52 = .ok (.iload_n 2, 1) := by decide +kernel
theorem dX7_delayBy_53 : decode cX7_delayBy 53 = .ok (.iadd, 1) := by decide +kernel
theorem dX7_delayBy_54 : decode cX7_delayBy 54 = .ok (.iaload, 1) := by decide +kernel
theorem dX7_delayBy_55 : decode cX7_delayBy 55 = .ok (.aload_n 0, 1) := by decide +kernel
theorem dX7_delayBy_56 : decode cX7_delayBy 56 = .ok (.getfield 22, 3) := by decide +kernel
theorem dX7_delayBy_59 : decode cX7_delayBy 59 = .ok (.bipush 8, 2) := by decide +kernel
theorem dX7_delayBy_61 : decode cX7_delayBy 61 = .ok (.iload_n 2, 1) := by decide +kernel
theorem dX7_delayBy_62 : decode cX7_delayBy 62 = .ok (.imul, 1) := by decide +kernel
theorem dX7_delayBy_63 : decode cX7_delayBy 63 = .ok (.iload 4, 2) := by decide +kernel
theorem dX7_delayBy_65 : decode cX7_delayBy 65 = .ok (.iadd, 1) := by decide +kernel
theorem dX7_delayBy_66 : decode cX7_delayBy 66 = .ok (.iaload, 1) := by decide +kernel
theorem dX7_delayBy_67 : decode cX7_delayBy 67 = .ok (.iadd, 1) := by decide +kernel
theorem dX7_delayBy_68 : decode cX7_delayBy 68 = .ok (.ireturn, 1) := by decide +kernel
theorem dX7_travels_0 : decode cX7_travels 0 = .ok (.aload_n 0, 1) := by decide +kernel
theorem dX7_travels_1 : decode cX7_travels 1 = .ok (.getfield 7, 3) := by decide +kernel
theorem dX7_travels_4 : decode cX7_travels 4 = .ok (.iload_n 1, 1) := by decide +kernel
theorem dX7_travels_5 : decode cX7_travels 5 = .ok (.iconst 3, 1) := by decide +kernel
theorem dX7_travels_6 : decode cX7_travels 6 = .ok (.invokestatic 249, 3) := by decide +kernel
theorem dX7_travels_9 : decode cX7_travels 9 = .ok (.iaload, 1) := by decide +kernel
theorem dX7_travels_10 : decode cX7_travels 10 = .ok (.istore_n 3, 1) := by decide +kernel
theorem dX7_travels_11 : decode cX7_travels 11 = .ok (.aload_n 0, 1) := by decide +kernel
theorem dX7_travels_12 : decode cX7_travels 12 = .ok (.getfield 7, 3) := by decide +kernel
theorem dX7_travels_15 : decode cX7_travels 15 = .ok (.iload_n 2, 1) := by decide +kernel
theorem dX7_travels_16 : decode cX7_travels 16 = .ok (.iconst 0, 1) := by decide +kernel
theorem dX7_travels_17 : decode cX7_travels 17 = .ok (.iadd, 1) := by decide +kernel
theorem dX7_travels_18 : decode cX7_travels 18 = .ok (.iload_n 3, 1) := by decide +kernel
theorem dX7_travels_19 : decode cX7_travels 19 = .ok (.iconst (-1), 1) := by decide +kernel
theorem dX7_travels_20 : decode cX7_travels 20 = .ok (.if_icmp .ne 7, 3) := by decide +kernel
theorem dX7_travels_23 : decode cX7_travels 23 = .ok (.iconst 0, 1) := by decide +kernel
theorem dX7_travels_24 : decode cX7_travels 24 = .ok (.goto 4, 3) := by decide +kernel
theorem dX7_travels_27 : decode cX7_travels 27 = .ok (.iconst 1, 1) := by decide +kernel
theorem dX7_travels_28 : decode cX7_travels 28 = .ok (.iastore, 1) := by decide +kernel
theorem dX7_travels_29 : decode cX7_travels 29 = .ok (.aload_n 0, 1) := by decide +kernel
theorem dX7_travels_30 : decode cX7_travels 30 = .ok (.getfield 7, 3) := by decide +kernel
theorem dX7_travels_33 : decode cX7_travels 33 = .ok (.iload_n 2, 1) := by decide +kernel
theorem dX7_travels_34 : decode cX7_travels 34 = .ok (.iconst 4, 1) := by decide +kernel
theorem dX7_travels_35 : decode cX7_travels 35 = .ok (.iadd, 1) := by decide +kernel
theorem dX7_travels_36 : decode cX7_travels 36 = .ok (.iload_n 3, 1) := by decide +kernel
theorem dX7_travels_37 : decode cX7_travels 37 = .ok (.iastore, 1) := by decide +kernel
theorem dX7_travels_38 : decode cX7_travels 38 = .ok (.aload_n 0, 1) := by decide +kernel
theorem dX7_travels_39 : decode cX7_travels 39 = .ok (.getfield 7, 3) := by decide +kernel
theorem dX7_travels_42 : decode cX7_travels 42 = .ok (.iload_n 2, 1) := by decide +kernel
theorem dX7_travels_43 : decode cX7_travels 43 = .ok (.iconst 3, 1) := by decide +kernel
theorem dX7_travels_44 : decode cX7_travels 44 = .ok (.iadd, 1) := by decide +kernel
theorem dX7_travels_45 : decode cX7_travels 45 = .ok (.iload_n 3, 1) := by decide +kernel
theorem dX7_travels_46 : decode cX7_travels 46 = .ok (.iconst (-1), 1) := by decide +kernel
theorem dX7_travels_47 : decode cX7_travels 47 = .ok (.if_icmp .ne 7, 3) := by decide +kernel
theorem dX7_travels_50 : decode cX7_travels 50 = .ok (.iconst (-1), 1) := by decide +kernel
theorem dX7_travels_51 : decode cX7_travels 51 = .ok (.goto 16, 3) := by decide +kernel
theorem dX7_travels_54 : decode cX7_travels 54 = .ok (.aload_n 0, 1) := by decide +kernel
theorem dX7_travels_55 : decode cX7_travels 55 = .ok (.getfield 7, 3) := by decide +kernel
theorem dX7_travels_58 : decode cX7_travels 58 = .ok (.iconst 0, 1) := by decide +kernel
theorem dX7_travels_59 : decode cX7_travels 59 = .ok (.iaload, 1) := by decide +kernel
theorem dX7_travels_60 : decode cX7_travels 60 = .ok (.aload_n 0, 1) := by decide +kernel
theorem dX7_travels_61 : decode cX7_travels 61 = .ok (.iload_n 1, 1) := by decide +kernel
theorem dX7_travels_62 : decode cX7_travels 62 = .ok (.iload_n 3, 1) := by decide +kernel
theorem dX7_travels_63 : decode cX7_travels 63 = .ok (.invokevirtual 286, 3) := by decide +kernel
theorem dX7_travels_66 : decode cX7_travels 66 = .ok (.iadd, 1) := by decide +kernel
theorem dX7_travels_67 : decode cX7_travels 67 = .ok (.iastore, 1) := by decide +kernel
theorem dX7_travels_68 : decode cX7_travels 68 = .ok (.return_, 1) := by decide +kernel
theorem dX7_takesPath_0 : decode cX7_takesPath 0 = .ok (.aload_n 0, 1) := by decide +kernel
theorem dX7_takesPath_1 : decode cX7_takesPath 1 = .ok (.getfield 7, 3) := by decide +kernel
theorem dX7_takesPath_4 : decode cX7_takesPath 4 = .ok (.iload_n 1, 1) := by decide +kernel
theorem dX7_takesPath_5 : decode cX7_takesPath 5 = .ok (.iconst 3, 1) := by decide +kernel
theorem dX7_takesPath_6 : decode cX7_takesPath 6 = .ok (.invokestatic 249, 3) := by decide +kernel
theorem dX7_takesPath_9 : decode cX7_takesPath 9 = .ok (.iload_n 2, 1) := by decide +kernel
theorem dX7_takesPath_10 : decode cX7_takesPath 10 = .ok (.iastore, 1) := by decide +kernel
theorem dX7_takesPath_11 : decode cX7_takesPath 11 = .ok (.aload_n 0, 1) := by decide +kernel
theorem dX7_takesPath_12 : decode cX7_takesPath 12 = .ok (.getfield 7, 3) := by decide +kernel
theorem dX7_takesPath_15 : decode cX7_takesPath 15 = .ok (.iload_n 1, 1) := by decide +kernel
theorem dX7_takesPath_16 : decode cX7_takesPath 16 = .ok (.bipush 12, 2) := by decide +kernel
theorem dX7_takesPath_18 : decode cX7_takesPath 18 = .ok (.invokestatic 249, 3) := by decide +kernel
theorem dX7_takesPath_21 : decode cX7_takesPath 21 = .ok (.iaload, 1) := by decide +kernel
theorem dX7_takesPath_22 : decode cX7_takesPath 22 = .ok (.ifCond .le 8, 3) := by decide +kernel
theorem dX7_takesPath_25 : decode cX7_takesPath 25 = .ok (.aload_n 0, 1) := by decide +kernel
theorem dX7_takesPath_26 : decode cX7_takesPath 26 = .ok (.iload_n 1, 1) := by decide +kernel
theorem dX7_takesPath_27 : decode cX7_takesPath 27 = .ok (.invokevirtual 289, 3) := by decide +kernel
theorem dX7_takesPath_30 : decode cX7_takesPath 30 = .ok (.iconst 0, 1) := by decide +kernel
theorem dX7_takesPath_31 : decode cX7_takesPath 31 = .ok (.istore_n 3, 1) := by decide +kernel
theorem dX7_takesPath_32 : decode cX7_takesPath 32 = .ok (.iload_n 3, 1) := by decide +kernel
theorem dX7_takesPath_33 : decode cX7_takesPath 33 = .ok (.aload_n 0, 1) := by decide +kernel
theorem dX7_takesPath_34 : decode cX7_takesPath 34 = .ok (.iload_n 1, 1) := by decide +kernel
theorem dX7_takesPath_35 : decode cX7_takesPath 35 = .ok (.invokevirtual 277, 3) := by decide +kernel
theorem dX7_takesPath_38 : decode cX7_takesPath 38 = .ok (.if_icmp .ge 34, 3) := by decide +kernel
theorem dX7_takesPath_41 : decode cX7_takesPath 41 = .ok (.aload_n 0, 1) := by decide +kernel
theorem dX7_takesPath_42 : decode cX7_takesPath 42 = .ok (.getfield 7, 3) := by decide +kernel
theorem dX7_takesPath_45 : decode cX7_takesPath 45 = .ok (.iload_n 1, 1) := by decide +kernel
theorem dX7_takesPath_46 : decode cX7_takesPath 46 = .ok (.iload_n 3, 1) := by decide +kernel
theorem dX7_takesPath_47 : decode cX7_takesPath 47 = .ok (.invokestatic 280, 3) := by decide +kernel
theorem dX7_takesPath_50 : decode cX7_takesPath 50 = .ok (.iconst 0, 1) := by decide +kernel
theorem dX7_takesPath_51 : decode cX7_takesPath 51 = .ok (.iadd, 1) := by decide +kernel
theorem dX7_takesPath_52 : decode cX7_takesPath 52 = .ok (.iaload, 1) := by decide +kernel
theorem dX7_takesPath_53 : decode cX7_takesPath 53 = .ok (.ifCond .ne 13, 3) := by decide +kernel
theorem dX7_takesPath_56 : decode cX7_takesPath 56 = .ok (.aload_n 0, 1) := by decide +kernel
theorem dX7_takesPath_57 : decode cX7_takesPath 57 = .ok (.iload_n 1, 1) := by decide +kernel
theorem dX7_takesPath_58 : decode cX7_takesPath 58 = .ok (.iload_n 1, 1) := by decide +kernel
theorem dX7_takesPath_59 : decode cX7_takesPath 59 = .ok (.iload_n 3, 1) := by decide +kernel
theorem dX7_takesPath_60 : decode cX7_takesPath 60 = .ok (.invokestatic 280, 3) := by decide +kernel
theorem dX7_takesPath_63 : decode cX7_takesPath 63 = .ok (.invokevirtual 292, 3) := by decide +kernel
theorem dX7_takesPath_66 : decode cX7_takesPath 66 = .ok (.iinc 3 1, 3) := by decide +kernel
theorem dX7_takesPath_69 : decode cX7_takesPath 69 = .ok (.goto (-37), 3) := by decide +kernel
theorem dX7_takesPath_72 : decode cX7_takesPath 72 = .ok (.return_, 1) := by decide +kernel
theorem dX7_delivers_0 : decode cX7_delivers 0 = .ok (.iconst 0, 1) := by decide +kernel
theorem dX7_delivers_1 : decode cX7_delivers 1 = .ok (.istore_n 2, 1) := by decide +kernel
theorem dX7_delivers_2 : decode cX7_delivers 2 = .ok (.iload_n 2, 1) := by decide +kernel
theorem dX7_delivers_3 : decode cX7_delivers 3 = .ok (.aload_n 0, 1) := by decide +kernel
theorem dX7_delivers_4 : decode cX7_delivers 4 = .ok (.iload_n 1, 1) := by decide +kernel
theorem dX7_delivers_5 : decode cX7_delivers 5 = .ok (.invokevirtual 277, 3) := by decide +kernel
theorem dX7_delivers_8 : decode cX7_delivers 8 = .ok (.if_icmp .ge 53, 3) := by decide +kernel
theorem dX7_delivers_11 : decode cX7_delivers 11 = .ok (.iload_n 1, 1) := by decide +kernel
theorem dX7_delivers_12 : decode cX7_delivers 12 = .ok (.iload_n 2, 1) := by decide +kernel
theorem dX7_delivers_13 : decode cX7_delivers 13 = .ok (.invokestatic 280, 3) := by decide +kernel
theorem dX7_delivers_16 : decode cX7_delivers 16 = .ok (.istore_n 3, 1) := by decide +kernel
theorem dX7_delivers_17 : decode cX7_delivers 17 = .ok (.aload_n 0, 1) := by decide +kernel
theorem dX7_delivers_18 : decode cX7_delivers 18 = .ok (.getfield 7, 3) := by decide +kernel
theorem dX7_delivers_21 : decode cX7_delivers 21 = .ok (.iload_n 3, 1) := by decide +kernel
theorem dX7_delivers_22 : decode cX7_delivers 22 = .ok (.iconst 0, 1) := by decide +kernel
theorem dX7_delivers_23 : decode cX7_delivers 23 = .ok (.iadd, 1) := by decide +kernel
theorem dX7_delivers_24 : decode cX7_delivers 24 = .ok (.iaload, 1) := by decide +kernel
theorem dX7_delivers_25 : decode cX7_delivers 25 = .ok (.iconst 1, 1) := by decide +kernel
theorem dX7_delivers_26 : decode cX7_delivers 26 = .ok (.if_icmp .ne 29, 3) := by decide +kernel
theorem dX7_delivers_29 : decode cX7_delivers 29 = .ok (.aload_n 0, 1) := by decide +kernel
theorem dX7_delivers_30 : decode cX7_delivers 30 = .ok (.getfield 7, 3) := by decide +kernel
theorem dX7_delivers_33 : decode cX7_delivers 33 = .ok (.iload_n 3, 1) := by decide +kernel
theorem dX7_delivers_34 : decode cX7_delivers 34 = .ok (.iconst 3, 1) := by decide +kernel
theorem dX7_delivers_35 : decode cX7_delivers 35 = .ok (.iadd, 1) := by decide +kernel
theorem dX7_delivers_36 : decode cX7_delivers 36 = .ok (.iaload, 1) := by decide +kernel
theorem dX7_delivers_37 : decode cX7_delivers 37 = .ok (.aload_n 0, 1) := by decide +kernel
theorem dX7_delivers_38 : decode cX7_delivers 38 = .ok (.getfield 7, 3) := by decide +kernel
theorem dX7_delivers_41 : decode cX7_delivers 41 = .ok (.iconst 0, 1) := by decide +kernel
theorem dX7_delivers_42 : decode cX7_delivers 42 = .ok (.iaload, 1) := by decide +kernel
theorem dX7_delivers_43 : decode cX7_delivers 43 = .ok (.if_icmp .ne 12, 3) := by decide +kernel
theorem dX7_delivers_46 : decode cX7_delivers 46 = .ok (.aload_n 0, 1) := by decide +kernel
theorem dX7_delivers_47 : decode cX7_delivers 47 = .ok (.getfield 7, 3) := by decide +kernel
theorem dX7_delivers_50 : decode cX7_delivers 50 = .ok (.iload_n 3, 1) := by decide +kernel
theorem dX7_delivers_51 : decode cX7_delivers 51 = .ok (.iconst 0, 1) := by decide +kernel
theorem dX7_delivers_52 : decode cX7_delivers 52 = .ok (.iadd, 1) := by decide +kernel
theorem dX7_delivers_53 : decode cX7_delivers 53 = .ok (.iconst 2, 1) := by decide +kernel
theorem dX7_delivers_54 : decode cX7_delivers 54 = .ok (.iastore, 1) := by decide +kernel
theorem dX7_delivers_55 : decode cX7_delivers 55 = .ok (.iinc 2 1, 3) := by decide +kernel
theorem dX7_delivers_58 : decode cX7_delivers 58 = .ok (.goto (-56), 3) := by decide +kernel
theorem dX7_delivers_61 : decode cX7_delivers 61 = .ok (.iconst 0, 1) := by decide +kernel
theorem dX7_delivers_62 : decode cX7_delivers 62 = .ok (.istore_n 2, 1) := by decide +kernel
theorem dX7_delivers_63 : decode cX7_delivers 63 = .ok (.aload_n 0, 1) := by decide +kernel
theorem dX7_delivers_64 : decode cX7_delivers 64 = .ok (.iload_n 1, 1) := by decide +kernel
theorem dX7_delivers_65 : decode cX7_delivers 65 = .ok (.invokevirtual 277, 3) := by decide +kernel
theorem dX7_delivers_68 : decode cX7_delivers 68 = .ok (.ifCond .le 142, 3) := by decide +kernel
theorem dX7_delivers_71 : decode cX7_delivers 71 = .ok (.aload_n 0, 1) := by decide +kernel
theorem dX7_delivers_72 : decode cX7_delivers 72 = .ok (.getfield 7, 3) := by decide +kernel
theorem dX7_delivers_75 : decode cX7_delivers 75 = .ok (.iload_n 1, 1) := by decide +kernel
theorem dX7_delivers_76 : decode cX7_delivers 76 = .ok (.iconst 0, 1) := by decide +kernel
theorem dX7_delivers_77 : decode cX7_delivers 77 = .ok (.invokestatic 280, 3) := by decide +kernel
theorem dX7_delivers_80 : decode cX7_delivers 80 = .ok (.iconst 0, 1) := by decide +kernel
theorem dX7_delivers_81 : decode cX7_delivers 81 = .ok (.iadd, 1) := by decide +kernel
theorem dX7_delivers_82 : decode cX7_delivers 82 = .ok (.iaload, 1) := by decide +kernel
theorem dX7_delivers_83 : decode cX7_delivers 83 = .ok (.iconst 2, 1) := by decide +kernel
theorem dX7_delivers_84 : decode cX7_delivers 84 = .ok (.if_icmp .ne 126, 3) := by decide +kernel
theorem dX7_delivers_87 : decode cX7_delivers 87 = .ok (.aload_n 0, 1) := by decide +kernel
theorem dX7_delivers_88 : decode cX7_delivers 88 = .ok (.getfield 7, 3) := by decide +kernel
theorem dX7_delivers_91 : decode cX7_delivers 91 = .ok (.iload_n 1, 1) := by decide +kernel
theorem dX7_delivers_92 : decode cX7_delivers 92 = .ok (.bipush 10, 2) := by decide +kernel
theorem dX7_delivers_94 : decode cX7_delivers 94 = .ok (.invokestatic 249, 3) := by decide +kernel
theorem dX7_delivers_97 : decode cX7_delivers 97 = .ok (.aload_n 0, 1) := by decide +kernel
theorem dX7_delivers_98 : decode cX7_delivers 98 = .ok (.getfield 7, 3) := by decide +kernel
theorem dX7_delivers_101 : decode cX7_delivers 101 = .ok (.iload_n 1, 1) := by decide +kernel
theorem dX7_delivers_102 : decode cX7_delivers 102 = .ok (.iconst 0, 1) := by decide +kernel
theorem dX7_delivers_103 : decode cX7_delivers 103 = .ok (.invokestatic 280, 3) := by decide +kernel
theorem dX7_delivers_106 : decode cX7_delivers 106 = .ok (.iconst 1, 1) := by decide +kernel
theorem dX7_delivers_107 : decode cX7_delivers 107 = .ok (.iadd, 1) := by decide +kernel
theorem dX7_delivers_108 : decode cX7_delivers 108 = .ok (.iaload, 1) := by decide +kernel
theorem dX7_delivers_109 : decode cX7_delivers 109 = .ok (.iastore, 1) := by decide +kernel
theorem dX7_delivers_110 : decode cX7_delivers 110 = .ok (.aload_n 0, 1) := by decide +kernel
theorem dX7_delivers_111 : decode cX7_delivers 111 = .ok (.getfield 7, 3) := by decide +kernel
theorem dX7_delivers_114 : decode cX7_delivers 114 = .ok (.iload_n 1, 1) := by decide +kernel
theorem dX7_delivers_115 : decode cX7_delivers 115 = .ok (.bipush 9, 2) := by decide +kernel
theorem dX7_delivers_117 : decode cX7_delivers 117 = .ok (.invokestatic 249, 3) := by decide +kernel
theorem dX7_delivers_120 : decode cX7_delivers 120 = .ok (.bipush 31, 2) := by decide +kernel
theorem dX7_delivers_122 : decode cX7_delivers 122 = .ok (.aload_n 0, 1) := by decide +kernel
theorem dX7_delivers_123 : decode cX7_delivers 123 = .ok (.getfield 7, 3) := by decide +kernel
theorem dX7_delivers_126 : decode cX7_delivers 126 = .ok (.iload_n 1, 1) := by decide +kernel
theorem dX7_delivers_127 : decode cX7_delivers 127 = .ok (.bipush 9, 2) := by decide +kernel
theorem dX7_delivers_129 : decode cX7_delivers 129 = .ok (.invokestatic 249, 3) := by decide +kernel
theorem dX7_delivers_132 : decode cX7_delivers 132 = .ok (.iaload, 1) := by decide +kernel
theorem dX7_delivers_133 : decode cX7_delivers 133 = .ok (.imul, 1) := by decide +kernel
theorem dX7_delivers_134 : decode cX7_delivers 134 = .ok (.aload_n 0, 1) := by decide +kernel
theorem dX7_delivers_135 : decode cX7_delivers 135 = .ok (.getfield 7, 3) := by decide +kernel
theorem dX7_delivers_138 : decode cX7_delivers 138 = .ok (.iload_n 1, 1) := by decide +kernel
theorem dX7_delivers_139 : decode cX7_delivers 139 = .ok (.iconst 0, 1) := by decide +kernel
theorem dX7_delivers_140 : decode cX7_delivers 140 = .ok (.invokestatic 280, 3) := by decide +kernel
theorem dX7_delivers_143 : decode cX7_delivers 143 = .ok (.iconst 1, 1) := by decide +kernel
theorem dX7_delivers_144 : decode cX7_delivers 144 = .ok (.iadd, 1) := by decide +kernel
theorem dX7_delivers_145 : decode cX7_delivers 145 = .ok (.iaload, 1) := by decide +kernel
theorem dX7_delivers_146 : decode cX7_delivers 146 = .ok (.iadd, 1) := by decide +kernel
theorem dX7_delivers_147 : decode cX7_delivers 147 = .ok (.iastore, 1) := by decide +kernel
theorem dX7_delivers_148 : decode cX7_delivers 148 = .ok (.iload_n 1, 1) := by decide +kernel
theorem dX7_delivers_149 : decode cX7_delivers 149 = .ok (.iconst 0, 1) := by decide +kernel
theorem dX7_delivers_150 : decode cX7_delivers 150 = .ok (.invokestatic 280, 3) := by decide +kernel
theorem dX7_delivers_153 : decode cX7_delivers 153 = .ok (.istore_n 3, 1) := by decide +kernel
theorem dX7_delivers_154 : decode cX7_delivers 154 = .ok (.iload_n 3, 1) := by decide +kernel
theorem dX7_delivers_155 : decode cX7_delivers 155 = .ok (.iload_n 1, 1) := by decide +kernel
theorem dX7_delivers_156 : decode cX7_delivers 156 = .ok (.aload_n 0, 1) := by decide +kernel
theorem dX7_delivers_157 : decode cX7_delivers 157 = .ok (.iload_n 1, 1) := by decide +kernel
theorem dX7_delivers_158 : decode cX7_delivers 158 = .ok (.invokevirtual 277, 3) := by decide +kernel
theorem dX7_delivers_161 : decode cX7_delivers 161 = .ok (.iconst 1, 1) := by decide +kernel
theorem dX7_delivers_162 : decode cX7_delivers 162 = .ok (.isub, 1) := by decide +kernel
theorem dX7_delivers_163 : decode cX7_delivers 163 = .ok (.invokestatic 280, 3) := by decide +kernel
theorem dX7_delivers_166 : decode cX7_delivers 166 = .ok (.if_icmp .ge 23, 3) := by decide +kernel
theorem dX7_delivers_169 : decode cX7_delivers 169 = .ok (.aload_n 0, 1) := by decide +kernel
theorem dX7_delivers_170 : decode cX7_delivers 170 = .ok (.getfield 7, 3) := by decide +kernel
theorem dX7_delivers_173 : decode cX7_delivers 173 = .ok (.iload_n 3, 1) := by decide +kernel
theorem dX7_delivers_174 : decode cX7_delivers 174 = .ok (.aload_n 0, 1) := by decide +kernel
theorem dX7_delivers_175 : decode cX7_delivers 175 = .ok (.getfield 7, 3) := by decide +kernel
theorem dX7_delivers_178 : decode cX7_delivers 178 = .ok (.iload_n 3, 1) := by decide +kernel
theorem dX7_delivers_179 : decode cX7_delivers 179 = .ok (.iconst 5, 1) := by decide +kernel
theorem dX7_delivers_180 : decode cX7_delivers 180 = .ok (.iadd, 1) := by decide +kernel
theorem dX7_delivers_181 : decode cX7_delivers 181 = .ok (.iaload, 1) := by decide +kernel
theorem dX7_delivers_182 : decode cX7_delivers 182 = .ok (.iastore, 1) := by decide +kernel
theorem dX7_delivers_183 : decode cX7_delivers 183 = .ok (.iinc 3 1, 3) := by decide +kernel
theorem dX7_delivers_186 : decode cX7_delivers 186 = .ok (.goto (-32), 3) := by decide +kernel
theorem dX7_delivers_189 : decode cX7_delivers 189 = .ok (.aload_n 0, 1) := by decide +kernel
theorem dX7_delivers_190 : decode cX7_delivers 190 = .ok (.getfield 7, 3) := by decide +kernel
theorem dX7_delivers_193 : decode cX7_delivers 193 = .ok (.iload_n 1, 1) := by decide +kernel
theorem dX7_delivers_194 : decode cX7_delivers 194 = .ok (.bipush 8, 2) := by decide +kernel
theorem dX7_delivers_196 : decode cX7_delivers 196 = .ok (.invokestatic 249, 3) := by decide +kernel
theorem dX7_delivers_199 : decode cX7_delivers 199 = .ok (.dup2, 1) := by decide +kernel
theorem dX7_delivers_200 : decode cX7_delivers 200 = .ok (.iaload, 1) := by decide +kernel
theorem dX7_delivers_201 : decode cX7_delivers 201 = .ok (.iconst 1, 1) := by decide +kernel
theorem dX7_delivers_202 : decode cX7_delivers 202 = .ok (.iadd, 1) := by decide +kernel
theorem dX7_delivers_203 : decode cX7_delivers 203 = .ok (.iastore, 1) := by decide +kernel
theorem dX7_delivers_204 : decode cX7_delivers 204 = .ok (.iinc 2 1, 3) := by decide +kernel
theorem dX7_delivers_207 : decode cX7_delivers 207 = .ok (.goto (-144), 3) := by decide +kernel
theorem dX7_delivers_210 : decode cX7_delivers 210 = .ok (.iload_n 2, 1) := by decide +kernel
theorem dX7_delivers_211 : decode cX7_delivers 211 = .ok (.ireturn, 1) := by decide +kernel
theorem dX7_probes_0 : decode cX7_probes 0 = .ok (.aload_n 0, 1) := by decide +kernel
theorem dX7_probes_1 : decode cX7_probes 1 = .ok (.getfield 7, 3) := by decide +kernel
theorem dX7_probes_4 : decode cX7_probes 4 = .ok (.iload_n 1, 1) := by decide +kernel
theorem dX7_probes_5 : decode cX7_probes 5 = .ok (.iconst 3, 1) := by decide +kernel
theorem dX7_probes_6 : decode cX7_probes 6 = .ok (.invokestatic 249, 3) := by decide +kernel
theorem dX7_probes_9 : decode cX7_probes 9 = .ok (.iaload, 1) := by decide +kernel
theorem dX7_probes_10 : decode cX7_probes 10 = .ok (.bipush 100, 2) := by decide +kernel
theorem dX7_probes_12 : decode cX7_probes 12 = .ok (.if_icmp .eq 35, 3) := by decide +kernel
theorem dX7_probes_15 : decode cX7_probes 15 = .ok (.aload_n 0, 1) := by decide +kernel
theorem dX7_probes_16 : decode cX7_probes 16 = .ok (.getfield 7, 3) := by decide +kernel
theorem dX7_probes_19 : decode cX7_probes 19 = .ok (.iconst 0, 1) := by decide +kernel
theorem dX7_probes_20 : decode cX7_probes 20 = .ok (.iaload, 1) := by decide +kernel
theorem dX7_probes_21 : decode cX7_probes 21 = .ok (.aload_n 0, 1) := by decide +kernel
theorem dX7_probes_22 : decode cX7_probes 22 = .ok (.getfield 7, 3) := by decide +kernel
theorem dX7_probes_25 : decode cX7_probes 25 = .ok (.iload_n 1, 1) := by decide +kernel
theorem dX7_probes_26 : decode cX7_probes 26 = .ok (.bipush 6, 2) := by decide +kernel
theorem dX7_probes_28 : decode cX7_probes 28 = .ok (.invokestatic 249, 3) := by decide +kernel
theorem dX7_probes_31 : decode cX7_probes 31 = .ok (.iaload, 1) := by decide +kernel
theorem dX7_probes_32 : decode cX7_probes 32 = .ok (.isub, 1) := by decide +kernel
theorem dX7_probes_33 : decode cX7_probes 33 = .ok (.aload_n 0, 1) := by decide +kernel
theorem dX7_probes_34 : decode cX7_probes 34 = .ok (.getfield 13, 3) := by decide +kernel
theorem dX7_probes_37 : decode cX7_probes 37 = .ok (.iconst 1, 1) := by decide +kernel
theorem dX7_probes_38 : decode cX7_probes 38 = .ok (.iaload, 1) := by decide +kernel
theorem dX7_probes_39 : decode cX7_probes 39 = .ok (.irem, 1) := by decide +kernel
theorem dX7_probes_40 : decode cX7_probes 40 = .ok (.ifCond .ne 7, 3) := by decide +kernel
theorem dX7_probes_43 : decode cX7_probes 43 = .ok (.iconst 1, 1) := by decide +kernel
theorem dX7_probes_44 : decode cX7_probes 44 = .ok (.goto 4, 3) := by decide +kernel
theorem dX7_probes_47 : decode cX7_probes 47 = .ok (.iconst 0, 1) := by decide +kernel
theorem dX7_probes_48 : decode cX7_probes 48 = .ok (.istore_n 2, 1) := by decide +kernel
theorem dX7_probes_49 : decode cX7_probes 49 = .ok (.iload_n 2, 1) := by decide +kernel
theorem dX7_probes_50 : decode cX7_probes 50 = .ok (.ifCond .ne 4, 3) := by decide +kernel
theorem dX7_probes_53 : decode cX7_probes 53 = .ok (.return_, 1) := by decide +kernel
theorem dX7_probes_54 : decode cX7_probes 54 = .ok (.aload_n 0, 1) := by decide +kernel
theorem dX7_probes_55 : decode cX7_probes 55 = .ok (.getfield 7, 3) := by decide +kernel
theorem dX7_probes_58 : decode cX7_probes 58 = .ok (.iload_n 1, 1) := by decide +kernel
theorem dX7_probes_59 : decode cX7_probes 59 = .ok (.iconst 5, 1) := by decide +kernel
theorem dX7_probes_60 : decode cX7_probes 60 = .ok (.invokestatic 249, 3) := by decide +kernel
theorem dX7_probes_63 : decode cX7_probes 63 = .ok (.aload_n 0, 1) := by decide +kernel
theorem dX7_probes_64 : decode cX7_probes 64 = .ok (.aload_n 0, 1) := by decide +kernel
theorem dX7_probes_65 : decode cX7_probes 65 = .ok (.getfield 7, 3) := by decide +kernel
theorem dX7_probes_68 : decode cX7_probes 68 = .ok (.iload_n 1, 1) := by decide +kernel
theorem dX7_probes_69 : decode cX7_probes 69 = .ok (.iconst 1, 1) := by decide +kernel
theorem dX7_probes_70 : decode cX7_probes 70 = .ok (.invokestatic 249, 3) := by decide +kernel
theorem dX7_probes_73 : decode cX7_probes 73 = .ok (.iaload, 1) := by decide +kernel
theorem dX7_probes_74 : decode cX7_probes 74 = .ok (.aload_n 0, 1) := by decide +kernel
theorem dX7_probes_75 : decode cX7_probes 75 = .ok (.getfield 7, 3) := by decide +kernel
theorem dX7_probes_78 : decode cX7_probes 78 = .ok (.iload_n 1, 1) := by decide +kernel
theorem dX7_probes_79 : decode cX7_probes 79 = .ok (.iconst 2, 1) := by decide +kernel
theorem dX7_probes_80 : decode cX7_probes 80 = .ok (.invokestatic 249, 3) := by decide +kernel
theorem dX7_probes_83 : decode cX7_probes 83 = .ok (.iaload, 1) := by decide +kernel
theorem dX7_probes_84 : decode cX7_probes 84 = .ok (.invokevirtual 243, 3) := by decide +kernel
theorem dX7_probes_87 : decode cX7_probes 87 = .ok (.ifCond .eq 18, 3) := by decide +kernel
theorem dX7_probes_90 : decode cX7_probes 90 = .ok (.aload_n 0, 1) := by decide +kernel
theorem dX7_probes_91 : decode cX7_probes 91 = .ok (.getfield 7, 3) := by decide +kernel
theorem dX7_probes_94 : decode cX7_probes 94 = .ok (.iload_n 1, 1) := by decide +kernel
theorem dX7_probes_95 : decode cX7_probes 95 = .ok (.iconst 5, 1) := by decide +kernel
theorem dX7_probes_96 : decode cX7_probes 96 = .ok (.invokestatic 249, 3) := by decide +kernel
theorem dX7_probes_99 : decode cX7_probes 99 = .ok (.iaload, 1) := by decide +kernel
theorem dX7_probes_100 : decode cX7_probes 100 = .ok (.iconst 1, 1) := by decide +kernel
theorem dX7_probes_101 : decode cX7_probes 101 = .ok (.iadd, 1) := by decide +kernel
theorem dX7_probes_102 : decode cX7_probes 102 = .ok (.goto 4, 3) := by decide +kernel
theorem dX7_probes_105 : decode cX7_probes 105 = .ok (.iconst 0, 1) := by decide +kernel
theorem dX7_probes_106 : decode cX7_probes 106 = .ok (.iastore, 1) := by decide +kernel
theorem dX7_probes_107 : decode cX7_probes 107 = .ok (.aload_n 0, 1) := by decide +kernel
theorem dX7_probes_108 : decode cX7_probes 108 = .ok (.getfield 7, 3) := by decide +kernel
theorem dX7_probes_111 : decode cX7_probes 111 = .ok (.iload_n 1, 1) := by decide +kernel
theorem dX7_probes_112 : decode cX7_probes 112 = .ok (.iconst 5, 1) := by decide +kernel
theorem dX7_probes_113 : decode cX7_probes 113 = .ok (.invokestatic 249, 3) := by decide +kernel
theorem dX7_probes_116 : decode cX7_probes 116 = .ok (.iaload, 1) := by decide +kernel
theorem dX7_probes_117 : decode cX7_probes 117 = .ok (.aload_n 0, 1) := by decide +kernel
theorem dX7_probes_118 : decode cX7_probes 118 = .ok (.getfield 13, 3) := by decide +kernel
theorem dX7_probes_121 : decode cX7_probes 121 = .ok (.iconst 2, 1) := by decide +kernel
theorem dX7_probes_122 : decode cX7_probes 122 = .ok (.iaload, 1) := by decide +kernel
theorem dX7_probes_123 : decode cX7_probes 123 = .ok (.if_icmp .ne 61, 3) := by decide +kernel
theorem dX7_probes_126 : decode cX7_probes 126 = .ok (.aload_n 0, 1) := by decide +kernel
theorem dX7_probes_127 : decode cX7_probes 127 = .ok (.getfield 7, 3) := by decide +kernel
theorem dX7_probes_130 : decode cX7_probes 130 = .ok (.iload_n 1, 1) := by decide +kernel
theorem dX7_probes_131 : decode cX7_probes 131 = .ok (.iconst 3, 1) := by decide +kernel
theorem dX7_probes_132 : decode cX7_probes 132 = .ok (.invokestatic 249, 3) := by decide +kernel
theorem dX7_probes_135 : decode cX7_probes 135 = .ok (.iaload, 1) := by decide +kernel
theorem dX7_probes_136 : decode cX7_probes 136 = .ok (.istore_n 3, 1) := by decide +kernel
theorem dX7_probes_137 : decode cX7_probes 137 = .ok (.aload_n 0, 1) := by decide +kernel
theorem dX7_probes_138 : decode cX7_probes 138 = .ok (.getfield 7, 3) := by decide +kernel
theorem dX7_probes_141 : decode cX7_probes 141 = .ok (.iload_n 1, 1) := by decide +kernel
theorem dX7_probes_142 : decode cX7_probes 142 = .ok (.iconst 5, 1) := by decide +kernel
theorem dX7_probes_143 : decode cX7_probes 143 = .ok (.invokestatic 249, 3) := by decide +kernel
theorem dX7_probes_146 : decode cX7_probes 146 = .ok (.iconst 0, 1) := by decide +kernel
theorem dX7_probes_147 : decode cX7_probes 147 = .ok (.iastore, 1) := by decide +kernel
theorem dX7_probes_148 : decode cX7_probes 148 = .ok (.aload_n 0, 1) := by decide +kernel
theorem dX7_probes_149 : decode cX7_probes 149 = .ok (.getfield 7, 3) := by decide +kernel
theorem dX7_probes_152 : decode cX7_probes 152 = .ok (.iload_n 1, 1) := by decide +kernel
theorem dX7_probes_153 : decode cX7_probes 153 = .ok (.iconst 4, 1) := by decide +kernel
theorem dX7_probes_154 : decode cX7_probes 154 = .ok (.invokestatic 249, 3) := by decide +kernel
theorem dX7_probes_157 : decode cX7_probes 157 = .ok (.iload_n 3, 1) := by decide +kernel
theorem dX7_probes_158 : decode cX7_probes 158 = .ok (.iconst (-1), 1) := by decide +kernel
theorem dX7_probes_159 : decode cX7_probes 159 = .ok (.if_icmp .ne 16, 3) := by decide +kernel
theorem dX7_probes_162 : decode cX7_probes 162 = .ok (.aload_n 0, 1) := by decide +kernel
theorem dX7_probes_163 : decode cX7_probes 163 = .ok (.getfield 7, 3) := by decide +kernel
theorem dX7_probes_166 : decode cX7_probes 166 = .ok (.iload_n 1, 1) := by decide +kernel
theorem dX7_probes_167 : decode cX7_probes 167 = .ok (.iconst 4, 1) := by decide +kernel
theorem dX7_probes_168 : decode cX7_probes 168 = .ok (.invokestatic 249, 3) := by decide +kernel
theorem dX7_probes_171 : decode cX7_probes 171 = .ok (.iaload, 1) := by decide +kernel
theorem dX7_probes_172 : decode cX7_probes 172 = .ok (.goto 4, 3) := by decide +kernel
theorem dX7_probes_175 : decode cX7_probes 175 = .ok (.iload_n 3, 1) := by decide +kernel
theorem dX7_probes_176 : decode cX7_probes 176 = .ok (.iastore, 1) := by decide +kernel
theorem dX7_probes_177 : decode cX7_probes 177 = .ok (.aload_n 0, 1) := by decide +kernel
theorem dX7_probes_178 : decode cX7_probes 178 = .ok (.iload_n 1, 1) := by decide +kernel
theorem dX7_probes_179 : decode cX7_probes 179 = .ok (.bipush 100, 2) := by decide +kernel
theorem dX7_probes_181 : decode cX7_probes 181 = .ok (.invokevirtual 296, 3) := by decide +kernel
theorem dX7_probes_184 : decode cX7_probes 184 = .ok (.return_, 1) := by decide +kernel
theorem dX7_emptiesOld_0 : decode cX7_emptiesOld 0 = .ok (.iconst 0, 1) := by decide +kernel
theorem dX7_emptiesOld_1 : decode cX7_emptiesOld 1 = .ok (.istore_n 2, 1) := by decide +kernel
theorem dX7_emptiesOld_2 : decode cX7_emptiesOld 2 = .ok (.iconst 0, 1) := by decide +kernel
theorem dX7_emptiesOld_3 : decode cX7_emptiesOld 3 = .ok (.istore_n 3, 1) := by decide +kernel
theorem dX7_emptiesOld_4 : decode cX7_emptiesOld 4 = .ok (.iload_n 3, 1) := by decide +kernel
theorem dX7_emptiesOld_5 : decode cX7_emptiesOld 5 = .ok (.aload_n 0, 1) := by decide +kernel
theorem dX7_emptiesOld_6 : decode cX7_emptiesOld 6 = .ok (.iload_n 1, 1) := by decide +kernel
theorem dX7_emptiesOld_7 : decode cX7_emptiesOld 7 = .ok (.invokevirtual 277, 3) := by decide +kernel
theorem dX7_emptiesOld_10 : decode cX7_emptiesOld 10 = .ok (.if_icmp .ge 60, 3) := by decide +kernel
theorem dX7_emptiesOld_13 : decode cX7_emptiesOld 13 = .ok (.iload_n 2, 1) := by decide +kernel
theorem dX7_emptiesOld_14 : decode cX7_emptiesOld 14 = .ok (.ifCond .ne 44, 3) := by decide +kernel
theorem dX7_emptiesOld_17 : decode cX7_emptiesOld 17 = .ok (.aload_n 0, 1) := by decide +kernel
theorem dX7_emptiesOld_18 : decode cX7_emptiesOld 18 = .ok (.getfield 7, 3) := by decide +kernel
theorem dX7_emptiesOld_21 : decode cX7_emptiesOld 21 = .ok (.iload_n 1, 1) := by decide +kernel
theorem dX7_emptiesOld_22 : decode cX7_emptiesOld 22 = .ok (.iload_n 3, 1) := by decide +kernel
theorem dX7_emptiesOld_23 : decode cX7_emptiesOld 23 = .ok (.invokestatic 280, 3) := by decide +kernel
theorem dX7_emptiesOld_26 : decode cX7_emptiesOld 26 = .ok (.iconst 0, 1) := by decide +kernel
theorem dX7_emptiesOld_27 : decode cX7_emptiesOld 27 = .ok (.iadd, 1) := by decide +kernel
theorem dX7_emptiesOld_28 : decode cX7_emptiesOld 28 = .ok (.iaload, 1) := by decide +kernel
theorem dX7_emptiesOld_29 : decode cX7_emptiesOld 29 = .ok (.iconst 1, 1) := by decide +kernel
theorem dX7_emptiesOld_30 : decode cX7_emptiesOld 30 = .ok (.if_icmp .ne 32, 3) := by decide +kernel
theorem dX7_emptiesOld_33 : decode cX7_emptiesOld 33 = .ok (.aload_n 0, 1) := by decide +kernel
theorem dX7_emptiesOld_34 : decode cX7_emptiesOld 34 = .ok (.getfield 7, 3) := by decide +kernel
theorem dX7_emptiesOld_37 : decode cX7_emptiesOld 37 = .ok (.iload_n 1, 1) := by decide +kernel
theorem dX7_emptiesOld_38 : decode cX7_emptiesOld 38 = .ok (.iload_n 3, 1) := by decide +kernel
theorem dX7_emptiesOld_39 : decode cX7_emptiesOld 39 = .ok (.invokestatic 280, 3) := by decide +kernel
theorem dX7_emptiesOld_42 : decode cX7_emptiesOld 42 = .ok (.iconst 4, 1) := by decide +kernel
theorem dX7_emptiesOld_43 : decode cX7_emptiesOld 43 = .ok (.iadd, 1) := by decide +kernel
theorem dX7_emptiesOld_44 : decode cX7_emptiesOld 44 = .ok (.iaload, 1) := by decide +kernel
theorem dX7_emptiesOld_45 : decode cX7_emptiesOld 45 = .ok (.aload_n 0, 1) := by decide +kernel
theorem dX7_emptiesOld_46 : decode cX7_emptiesOld 46 = .ok (.getfield 7, 3) := by decide +kernel
theorem dX7_emptiesOld_49 : decode cX7_emptiesOld 49 = .ok (.iload_n 1, 1) := by decide +kernel
theorem dX7_emptiesOld_50 : decode cX7_emptiesOld 50 = .ok (.iconst 4, 1) := by decide +kernel
theorem dX7_emptiesOld_51 : decode cX7_emptiesOld 51 = .ok (.invokestatic 249, 3) := by decide +kernel
theorem dX7_emptiesOld_54 : decode cX7_emptiesOld 54 = .ok (.iaload, 1) := by decide +kernel
theorem dX7_emptiesOld_55 : decode cX7_emptiesOld 55 = .ok (.if_icmp .ne 7, 3) := by decide +kernel
theorem dX7_emptiesOld_58 : decode cX7_emptiesOld 58 = .ok (.iconst 1, 1) := by decide +kernel
theorem dX7_emptiesOld_59 : decode cX7_emptiesOld 59 = .ok (.goto 4, 3) := by decide +kernel
theorem dX7_emptiesOld_62 : decode cX7_emptiesOld 62 = .ok (.iconst 0, 1) := by decide +kernel
theorem dX7_emptiesOld_63 : decode cX7_emptiesOld 63 = .ok (.istore_n 2, 1) := by decide +kernel
theorem dX7_emptiesOld_64 : decode cX7_emptiesOld 64 = .ok (.iinc 3 1, 3) := by decide +kernel
theorem dX7_emptiesOld_67 : decode cX7_emptiesOld 67 = .ok (.goto (-63), 3) := by decide +kernel
theorem dX7_emptiesOld_70 : decode cX7_emptiesOld 70 = .ok (.aload_n 0, 1) := by decide +kernel
theorem dX7_emptiesOld_71 : decode cX7_emptiesOld 71 = .ok (.getfield 7, 3) := by decide +kernel
theorem dX7_emptiesOld_74 : decode cX7_emptiesOld 74 = .ok (.iload_n 1, 1) := by decide +kernel
theorem dX7_emptiesOld_75 : decode cX7_emptiesOld 75 = .ok (.iconst 4, 1) := by decide +kernel
theorem dX7_emptiesOld_76 : decode cX7_emptiesOld 76 = .ok (.invokestatic 249, 3) := by decide +kernel
theorem dX7_emptiesOld_79 : decode cX7_emptiesOld 79 = .ok (.iload_n 2, 1) := by decide +kernel
theorem dX7_emptiesOld_80 : decode cX7_emptiesOld 80 = .ok (.ifCond .eq 16, 3) := by decide +kernel
theorem dX7_emptiesOld_83 : decode cX7_emptiesOld 83 = .ok (.aload_n 0, 1) := by decide +kernel
theorem dX7_emptiesOld_84 : decode cX7_emptiesOld 84 = .ok (.getfield 7, 3) := by decide +kernel
theorem dX7_emptiesOld_87 : decode cX7_emptiesOld 87 = .ok (.iload_n 1, 1) := by decide +kernel
theorem dX7_emptiesOld_88 : decode cX7_emptiesOld 88 = .ok (.iconst 4, 1) := by decide +kernel
theorem dX7_emptiesOld_89 : decode cX7_emptiesOld 89 = .ok (.invokestatic 249, 3) := by decide +kernel
theorem dX7_emptiesOld_92 : decode cX7_emptiesOld 92 = .ok (.iaload, 1) := by decide +kernel
theorem dX7_emptiesOld_93 : decode cX7_emptiesOld 93 = .ok (.goto 4, 3) := by decide +kernel
theorem dX7_emptiesOld_96 : decode cX7_emptiesOld 96 = .ok (.iconst (-1), 1) := by decide +kernel
theorem dX7_emptiesOld_97 : decode cX7_emptiesOld 97 = .ok (.iastore, 1) := by decide +kernel
theorem dX7_emptiesOld_98 : decode cX7_emptiesOld 98 = .ok (.return_, 1) := by decide +kernel
theorem dX7_ticks_0 : decode cX7_ticks 0 = .ok (.aload_n 0, 1) := by decide +kernel
theorem dX7_ticks_1 : decode cX7_ticks 1 = .ok (.getfield 7, 3) := by decide +kernel
theorem dX7_ticks_4 : decode cX7_ticks 4 = .ok (.iconst 0, 1) := by decide +kernel
theorem dX7_ticks_5 : decode cX7_ticks 5 = .ok (.dup2, 1) := by decide +kernel
theorem dX7_ticks_6 : decode cX7_ticks 6 = .ok (.iaload, 1) := by decide +kernel
theorem dX7_ticks_7 : decode cX7_ticks 7 = .ok (.iconst 1, 1) := by decide +kernel
theorem dX7_ticks_8 : decode cX7_ticks 8 = .ok (.iadd, 1) := by decide +kernel
theorem dX7_ticks_9 : decode cX7_ticks 9 = .ok (.iastore, 1) := by decide +kernel
theorem dX7_ticks_10 : decode cX7_ticks 10 = .ok (.iconst 0, 1) := by decide +kernel
theorem dX7_ticks_11 : decode cX7_ticks 11 = .ok (.istore_n 1, 1) := by decide +kernel
theorem dX7_ticks_12 : decode cX7_ticks 12 = .ok (.iconst 0, 1) := by decide +kernel
theorem dX7_ticks_13 : decode cX7_ticks 13 = .ok (.istore_n 2, 1) := by decide +kernel
theorem dX7_ticks_14 : decode cX7_ticks 14 = .ok (.iload_n 2, 1) := by decide +kernel
theorem dX7_ticks_15 : decode cX7_ticks 15 = .ok (.bipush 6, 2) := by decide +kernel
theorem dX7_ticks_17 : decode cX7_ticks 17 = .ok (.if_icmp .ge 29, 3) := by decide +kernel
theorem dX7_ticks_20 : decode cX7_ticks 20 = .ok (.iload_n 1, 1) := by decide +kernel
theorem dX7_ticks_21 : decode cX7_ticks 21 = .ok (.aload_n 0, 1) := by decide +kernel
theorem dX7_ticks_22 : decode cX7_ticks 22 = .ok (.iload_n 2, 1) := by decide +kernel
theorem dX7_ticks_23 : decode cX7_ticks 23 = .ok (.invokevirtual 253, 3) := by decide +kernel
theorem dX7_ticks_26 : decode cX7_ticks 26 = .ok (.ifCond .eq 11, 3) := by decide +kernel
theorem dX7_ticks_29 : decode cX7_ticks 29 = .ok (.aload_n 0, 1) := by decide +kernel
theorem dX7_ticks_30 : decode cX7_ticks 30 = .ok (.iload_n 2, 1) := by decide +kernel
theorem dX7_ticks_31 : decode cX7_ticks 31 = .ok (.invokevirtual 299, 3) := by decide +kernel
theorem dX7_ticks_34 : decode cX7_ticks 34 = .ok (.goto 4, 3) := by decide +kernel
theorem dX7_ticks_37 : decode cX7_ticks 37 = .ok (.iconst 0, 1) := by decide +kernel
theorem dX7_ticks_38 : decode cX7_ticks 38 = .ok (.iadd, 1) := by decide +kernel
theorem dX7_ticks_39 : decode cX7_ticks 39 = .ok (.istore_n 1, 1) := by decide +kernel
theorem dX7_ticks_40 : decode cX7_ticks 40 = .ok (.iinc 2 1, 3) := by decide +kernel
theorem dX7_ticks_43 : decode cX7_ticks 43 = .ok (.goto (-29), 3) := by decide +kernel
theorem dX7_ticks_46 : decode cX7_ticks 46 = .ok (.iconst 0, 1) := by decide +kernel
theorem dX7_ticks_47 : decode cX7_ticks 47 = .ok (.istore_n 2, 1) := by decide +kernel
theorem dX7_ticks_48 : decode cX7_ticks 48 = .ok (.iload_n 2, 1) := by decide +kernel
theorem dX7_ticks_49 : decode cX7_ticks 49 = .ok (.bipush 6, 2) := by decide +kernel
theorem dX7_ticks_51 : decode cX7_ticks 51 = .ok (.if_icmp .ge 22, 3) := by decide +kernel
theorem dX7_ticks_54 : decode cX7_ticks 54 = .ok (.aload_n 0, 1) := by decide +kernel
theorem dX7_ticks_55 : decode cX7_ticks 55 = .ok (.iload_n 2, 1) := by decide +kernel
theorem dX7_ticks_56 : decode cX7_ticks 56 = .ok (.invokevirtual 253, 3) := by decide +kernel
theorem dX7_ticks_59 : decode cX7_ticks 59 = .ok (.ifCond .eq 8, 3) := by decide +kernel
theorem dX7_ticks_62 : decode cX7_ticks 62 = .ok (.aload_n 0, 1) := by decide +kernel
theorem dX7_ticks_63 : decode cX7_ticks 63 = .ok (.iload_n 2, 1) := by decide +kernel
theorem dX7_ticks_64 : decode cX7_ticks 64 = .ok (.invokevirtual 302, 3) := by decide +kernel
theorem dX7_ticks_67 : decode cX7_ticks 67 = .ok (.iinc 2 1, 3) := by decide +kernel
theorem dX7_ticks_70 : decode cX7_ticks 70 = .ok (.goto (-22), 3) := by decide +kernel
theorem dX7_ticks_73 : decode cX7_ticks 73 = .ok (.iconst 0, 1) := by decide +kernel
theorem dX7_ticks_74 : decode cX7_ticks 74 = .ok (.istore_n 2, 1) := by decide +kernel
theorem dX7_ticks_75 : decode cX7_ticks 75 = .ok (.iload_n 2, 1) := by decide +kernel
theorem dX7_ticks_76 : decode cX7_ticks 76 = .ok (.bipush 6, 2) := by decide +kernel
theorem dX7_ticks_78 : decode cX7_ticks 78 = .ok (.if_icmp .ge 67, 3) := by decide +kernel
theorem dX7_ticks_81 : decode cX7_ticks 81 = .ok (.aload_n 0, 1) := by decide +kernel
theorem dX7_ticks_82 : decode cX7_ticks 82 = .ok (.iload_n 2, 1) := by decide +kernel
theorem dX7_ticks_83 : decode cX7_ticks 83 = .ok (.invokevirtual 253, 3) := by decide +kernel
theorem dX7_ticks_86 : decode cX7_ticks 86 = .ok (.ifCond .eq 53, 3) := by decide +kernel
theorem dX7_ticks_89 : decode cX7_ticks 89 = .ok (.aload_n 0, 1) := by decide +kernel
theorem dX7_ticks_90 : decode cX7_ticks 90 = .ok (.getfield 7, 3) := by decide +kernel
theorem dX7_ticks_93 : decode cX7_ticks 93 = .ok (.iload_n 2, 1) := by decide +kernel
theorem dX7_ticks_94 : decode cX7_ticks 94 = .ok (.iconst 3, 1) := by decide +kernel
theorem dX7_ticks_95 : decode cX7_ticks 95 = .ok (.invokestatic 249, 3) := by decide +kernel
theorem dX7_ticks_98 : decode cX7_ticks 98 = .ok (.iaload, 1) := by decide +kernel
theorem dX7_ticks_99 : decode cX7_ticks 99 = .ok (.iconst (-1), 1) := by decide +kernel
theorem dX7_ticks_100 : decode cX7_ticks 100 = .ok (.if_icmp .ne 39, 3) := by decide +kernel
theorem dX7_ticks_103 : decode cX7_ticks 103 = .ok (.aload_n 0, 1) := by decide +kernel
theorem dX7_ticks_104 : decode cX7_ticks 104 = .ok (.aload_n 0, 1) := by decide +kernel
theorem dX7_ticks_105 : decode cX7_ticks 105 = .ok (.getfield 7, 3) := by decide +kernel
theorem dX7_ticks_108 : decode cX7_ticks 108 = .ok (.iload_n 2, 1) := by decide +kernel
theorem dX7_ticks_109 : decode cX7_ticks 109 = .ok (.iconst 1, 1) := by decide +kernel
theorem dX7_ticks_110 : decode cX7_ticks 110 = .ok (.invokestatic 249, 3) := by decide +kernel
theorem dX7_ticks_113 : decode cX7_ticks 113 = .ok (.iaload, 1) := by decide +kernel
theorem dX7_ticks_114 : decode cX7_ticks 114 = .ok (.aload_n 0, 1) := by decide +kernel
theorem dX7_ticks_115 : decode cX7_ticks 115 = .ok (.getfield 7, 3) := by decide +kernel
theorem dX7_ticks_118 : decode cX7_ticks 118 = .ok (.iload_n 2, 1) := by decide +kernel
theorem dX7_ticks_119 : decode cX7_ticks 119 = .ok (.iconst 2, 1) := by decide +kernel
theorem dX7_ticks_120 : decode cX7_ticks 120 = .ok (.invokestatic 249, 3) := by decide +kernel
theorem dX7_ticks_123 : decode cX7_ticks 123 = .ok (.iaload, 1) := by decide +kernel
theorem dX7_ticks_124 : decode cX7_ticks 124 = .ok (.invokevirtual 262, 3) := by decide +kernel
theorem dX7_ticks_127 : decode cX7_ticks 127 = .ok (.istore_n 3, 1) := by decide +kernel
theorem dX7_ticks_128 : decode cX7_ticks 128 = .ok (.iload_n 3, 1) := by decide +kernel
theorem dX7_ticks_129 : decode cX7_ticks 129 = .ok (.iconst (-1), 1) := by decide +kernel
theorem dX7_ticks_130 : decode cX7_ticks 130 = .ok (.if_icmp .eq 9, 3) := by decide +kernel
theorem dX7_ticks_133 : decode cX7_ticks 133 = .ok (.aload_n 0, 1) := by decide +kernel
theorem dX7_ticks_134 : decode cX7_ticks 134 = .ok (.iload_n 2, 1) := by decide +kernel
theorem dX7_ticks_135 : decode cX7_ticks 135 = .ok (.iload_n 3, 1) := by decide +kernel
theorem dX7_ticks_136 : decode cX7_ticks 136 = .ok (.invokevirtual 296, 3) := by decide +kernel
theorem dX7_ticks_139 : decode cX7_ticks 139 = .ok (.iinc 2 1, 3) := by decide +kernel
theorem dX7_ticks_142 : decode cX7_ticks 142 = .ok (.goto (-67), 3) := by decide +kernel
theorem dX7_ticks_145 : decode cX7_ticks 145 = .ok (.iconst 0, 1) := by decide +kernel
theorem dX7_ticks_146 : decode cX7_ticks 146 = .ok (.istore_n 2, 1) := by decide +kernel
theorem dX7_ticks_147 : decode cX7_ticks 147 = .ok (.iload_n 2, 1) := by decide +kernel
theorem dX7_ticks_148 : decode cX7_ticks 148 = .ok (.bipush 6, 2) := by decide +kernel
theorem dX7_ticks_150 : decode cX7_ticks 150 = .ok (.if_icmp .ge 22, 3) := by decide +kernel
theorem dX7_ticks_153 : decode cX7_ticks 153 = .ok (.aload_n 0, 1) := by decide +kernel
theorem dX7_ticks_154 : decode cX7_ticks 154 = .ok (.iload_n 2, 1) := by decide +kernel
theorem dX7_ticks_155 : decode cX7_ticks 155 = .ok (.invokevirtual 253, 3) := by decide +kernel
theorem dX7_ticks_158 : decode cX7_ticks 158 = .ok (.ifCond .eq 8, 3) := by decide +kernel
theorem dX7_ticks_161 : decode cX7_ticks 161 = .ok (.aload_n 0, 1) := by decide +kernel
theorem dX7_ticks_162 : decode cX7_ticks 162 = .ok (.iload_n 2, 1) := by decide +kernel
theorem dX7_ticks_163 : decode cX7_ticks 163 = .ok (.invokevirtual 305, 3) := by decide +kernel
theorem dX7_ticks_166 : decode cX7_ticks 166 = .ok (.iinc 2 1, 3) := by decide +kernel
theorem dX7_ticks_169 : decode cX7_ticks 169 = .ok (.goto (-22), 3) := by decide +kernel
theorem dX7_ticks_172 : decode cX7_ticks 172 = .ok (.iload_n 1, 1) := by decide +kernel
theorem dX7_ticks_173 : decode cX7_ticks 173 = .ok (.ireturn, 1) := by decide +kernel
theorem dX7_usesLink_0 : decode cX7_usesLink 0 = .ok (.aload_n 0, 1) := by decide +kernel
theorem dX7_usesLink_1 : decode cX7_usesLink 1 = .ok (.getfield 7, 3) := by decide +kernel
theorem dX7_usesLink_4 : decode cX7_usesLink 4 = .ok (.iload_n 1, 1) := by decide +kernel
theorem dX7_usesLink_5 : decode cX7_usesLink 5 = .ok (.iconst 1, 1) := by decide +kernel
theorem dX7_usesLink_6 : decode cX7_usesLink 6 = .ok (.invokestatic 249, 3) := by decide +kernel
theorem dX7_usesLink_9 : decode cX7_usesLink 9 = .ok (.iaload, 1) := by decide +kernel
theorem dX7_usesLink_10 : decode cX7_usesLink 10 = .ok (.istore 5, 2) := by decide +kernel
theorem dX7_usesLink_12 : decode cX7_usesLink 12 = .ok (.aload_n 0, 1) := by decide +kernel
theorem dX7_usesLink_13 : decode cX7_usesLink 13 = .ok (.getfield 7, 3) := by decide +kernel
theorem dX7_usesLink_16 : decode cX7_usesLink 16 = .ok (.iload_n 1, 1) := by decide +kernel
theorem dX7_usesLink_17 : decode cX7_usesLink 17 = .ok (.iconst 2, 1) := by decide +kernel
theorem dX7_usesLink_18 : decode cX7_usesLink 18 = .ok (.invokestatic 249, 3) := by decide +kernel
theorem dX7_usesLink_21 : decode cX7_usesLink 21 = .ok (.iaload, 1) := by decide +kernel
theorem dX7_usesLink_22 : decode cX7_usesLink 22 = .ok (.istore 6, 2) := by decide +kernel
theorem dX7_usesLink_24 : decode cX7_usesLink 24 = .ok (.iload_n 2, 1) := by decide +kernel
theorem dX7_usesLink_25 : decode cX7_usesLink 25 = .ok (.iconst (-1), 1) := by decide +kernel
theorem dX7_usesLink_26 : decode cX7_usesLink 26 = .ok (.if_icmp .ne 5, 3) := by decide +kernel
theorem dX7_usesLink_29 : decode cX7_usesLink 29 = .ok (.iconst 0, 1) := by decide +kernel
theorem dX7_usesLink_30 : decode cX7_usesLink 30 = .ok (.ireturn, 1) := by decide +kernel
theorem dX7_usesLink_31 : decode cX7_usesLink 31 = .ok (.iload_n 2, 1) := by decide +kernel
theorem dX7_usesLink_32 : decode cX7_usesLink 32 = .ok (.bipush 100, 2) := by decide +kernel
theorem dX7_usesLink_34 : decode cX7_usesLink 34 = .ok (.if_icmp .ne 35, 3) := by decide +kernel
theorem dX7_usesLink_37 : decode cX7_usesLink 37 = .ok (.iload 5, 2) := by decide +kernel
theorem dX7_usesLink_39 : decode cX7_usesLink 39 = .ok (.iload_n 3, 1) := by decide +kernel
theorem dX7_usesLink_40 : decode cX7_usesLink 40 = .ok (.if_icmp .ne 10, 3) := by decide +kernel
theorem dX7_usesLink_43 : decode cX7_usesLink 43 = .ok (.iload 6, 2) := by decide +kernel
theorem dX7_usesLink_45 : decode cX7_usesLink 45 = .ok (.iload 4, 2) := by decide +kernel
theorem dX7_usesLink_47 : decode cX7_usesLink 47 = .ok (.if_icmp .eq 16, 3) := by decide +kernel
theorem dX7_usesLink_50 : decode cX7_usesLink 50 = .ok (.iload 5, 2) := by decide +kernel
theorem dX7_usesLink_52 : decode cX7_usesLink 52 = .ok (.iload 4, 2) := by decide +kernel
theorem dX7_usesLink_54 : decode cX7_usesLink 54 = .ok (.if_icmp .ne 13, 3) := by decide +kernel
theorem dX7_usesLink_57 : decode cX7_usesLink 57 = .ok (.iload 6, 2) := by decide +kernel
theorem dX7_usesLink_59 : decode cX7_usesLink 59 = .ok (.iload_n 3, 1) := by decide +kernel
theorem dX7_usesLink_60 : decode cX7_usesLink 60 = .ok (.if_icmp .ne 7, 3) := by decide +kernel
theorem dX7_usesLink_63 : decode cX7_usesLink 63 = .ok (.iconst 1, 1) := by decide +kernel
theorem dX7_usesLink_64 : decode cX7_usesLink 64 = .ok (.goto 4, 3) := by decide +kernel
theorem dX7_usesLink_67 : decode cX7_usesLink 67 = .ok (.iconst 0, 1) := by decide +kernel
theorem dX7_usesLink_68 : decode cX7_usesLink 68 = .ok (.ireturn, 1) := by decide +kernel
theorem dX7_usesLink_69 : decode cX7_usesLink 69 = .ok (.iload_n 2, 1) := by decide +kernel
theorem dX7_usesLink_70 : decode cX7_usesLink 70 = .ok (.iload_n 3, 1) := by decide +kernel
theorem dX7_usesLink_71 : decode cX7_usesLink 71 = .ok (.if_icmp .ne 17, 3) := by decide +kernel
theorem dX7_usesLink_74 : decode cX7_usesLink 74 = .ok (.iload 4, 2) := by decide +kernel
theorem dX7_usesLink_76 : decode cX7_usesLink 76 = .ok (.iload 5, 2) := by decide +kernel
theorem dX7_usesLink_78 : decode cX7_usesLink 78 = .ok (.if_icmp .eq 28, 3) := by decide +kernel
theorem dX7_usesLink_81 : decode cX7_usesLink 81 = .ok (.iload 4, 2) := by decide +kernel
theorem dX7_usesLink_83 : decode cX7_usesLink 83 = .ok (.iload 6, 2) := by decide +kernel
theorem dX7_usesLink_85 : decode cX7_usesLink 85 = .ok (.if_icmp .eq 21, 3) := by decide +kernel
theorem dX7_usesLink_88 : decode cX7_usesLink 88 = .ok (.iload_n 2, 1) := by decide +kernel
theorem dX7_usesLink_89 : decode cX7_usesLink 89 = .ok (.iload 4, 2) := by decide +kernel
theorem dX7_usesLink_91 : decode cX7_usesLink 91 = .ok (.if_icmp .ne 19, 3) := by decide +kernel
theorem dX7_usesLink_94 : decode cX7_usesLink 94 = .ok (.iload_n 3, 1) := by decide +kernel
theorem dX7_usesLink_95 : decode cX7_usesLink 95 = .ok (.iload 5, 2) := by decide +kernel
theorem dX7_usesLink_97 : decode cX7_usesLink 97 = .ok (.if_icmp .eq 9, 3) := by decide +kernel
theorem dX7_usesLink_100 : decode cX7_usesLink 100 = .ok (.iload_n 3, 1) := by decide +kernel
theorem dX7_usesLink_101 : decode cX7_usesLink 101 = .ok (.iload 6, 2) := by decide +kernel
theorem dX7_usesLink_103 : decode cX7_usesLink 103 = .ok (.if_icmp .ne 7, 3) := by decide +kernel
theorem dX7_usesLink_106 : decode cX7_usesLink 106 = .ok (.iconst 1, 1) := by decide +kernel
theorem dX7_usesLink_107 : decode cX7_usesLink 107 = .ok (.goto 4, 3) := by decide +kernel
theorem dX7_usesLink_110 : decode cX7_usesLink 110 = .ok (.iconst 0, 1) := by decide +kernel
theorem dX7_usesLink_111 : decode cX7_usesLink 111 = .ok (.ireturn, 1) := by decide +kernel
theorem dX7_breaks_0 : decode cX7_breaks 0 = .ok (.aload_n 0, 1) := by decide +kernel
theorem dX7_breaks_1 : decode cX7_breaks 1 = .ok (.iload_n 1, 1) := by decide +kernel
theorem dX7_breaks_2 : decode cX7_breaks 2 = .ok (.aload_n 0, 1) := by decide +kernel
theorem dX7_breaks_3 : decode cX7_breaks 3 = .ok (.getfield 7, 3) := by decide +kernel
theorem dX7_breaks_6 : decode cX7_breaks 6 = .ok (.iload_n 1, 1) := by decide +kernel
theorem dX7_breaks_7 : decode cX7_breaks 7 = .ok (.iconst 4, 1) := by decide +kernel
theorem dX7_breaks_8 : decode cX7_breaks 8 = .ok (.invokestatic 249, 3) := by decide +kernel
theorem dX7_breaks_11 : decode cX7_breaks 11 = .ok (.iaload, 1) := by decide +kernel
theorem dX7_breaks_12 : decode cX7_breaks 12 = .ok (.iload_n 2, 1) := by decide +kernel
theorem dX7_breaks_13 : decode cX7_breaks 13 = .ok (.iload_n 3, 1) := by decide +kernel
theorem dX7_breaks_14 : decode cX7_breaks 14 = .ok (.invokevirtual 308, 3) := by decide +kernel
theorem dX7_breaks_17 : decode cX7_breaks 17 = .ok (.ifCond .eq 14, 3) := by decide +kernel
theorem dX7_breaks_20 : decode cX7_breaks 20 = .ok (.aload_n 0, 1) := by decide +kernel
theorem dX7_breaks_21 : decode cX7_breaks 21 = .ok (.getfield 7, 3) := by decide +kernel
theorem dX7_breaks_24 : decode cX7_breaks 24 = .ok (.iload_n 1, 1) := by decide +kernel
theorem dX7_breaks_25 : decode cX7_breaks 25 = .ok (.iconst 4, 1) := by decide +kernel
theorem dX7_breaks_26 : decode cX7_breaks 26 = .ok (.invokestatic 249, 3) := by decide +kernel
theorem dX7_breaks_29 : decode cX7_breaks 29 = .ok (.iconst (-1), 1) := by decide +kernel
theorem dX7_breaks_30 : decode cX7_breaks 30 = .ok (.iastore, 1) := by decide +kernel
theorem dX7_breaks_31 : decode cX7_breaks 31 = .ok (.aload_n 0, 1) := by decide +kernel
theorem dX7_breaks_32 : decode cX7_breaks 32 = .ok (.iload_n 1, 1) := by decide +kernel
theorem dX7_breaks_33 : decode cX7_breaks 33 = .ok (.aload_n 0, 1) := by decide +kernel
theorem dX7_breaks_34 : decode cX7_breaks 34 = .ok (.getfield 7, 3) := by decide +kernel
theorem dX7_breaks_37 : decode cX7_breaks 37 = .ok (.iload_n 1, 1) := by decide +kernel
theorem dX7_breaks_38 : decode cX7_breaks 38 = .ok (.iconst 3, 1) := by decide +kernel
theorem dX7_breaks_39 : decode cX7_breaks 39 = .ok (.invokestatic 249, 3) := by decide +kernel
theorem dX7_breaks_42 : decode cX7_breaks 42 = .ok (.iaload, 1) := by decide +kernel
theorem dX7_breaks_43 : decode cX7_breaks 43 = .ok (.iload_n 2, 1) := by decide +kernel
theorem dX7_breaks_44 : decode cX7_breaks 44 = .ok (.iload_n 3, 1) := by decide +kernel
theorem dX7_breaks_45 : decode cX7_breaks 45 = .ok (.invokevirtual 308, 3) := by decide +kernel
theorem dX7_breaks_48 : decode cX7_breaks 48 = .ok (.ifCond .eq 43, 3) := by decide +kernel
theorem dX7_breaks_51 : decode cX7_breaks 51 = .ok (.aload_n 0, 1) := by decide +kernel
theorem dX7_breaks_52 : decode cX7_breaks 52 = .ok (.getfield 7, 3) := by decide +kernel
theorem dX7_breaks_55 : decode cX7_breaks 55 = .ok (.iload_n 1, 1) := by decide +kernel
theorem dX7_breaks_56 : decode cX7_breaks 56 = .ok (.iconst 5, 1) := by decide +kernel
theorem dX7_breaks_57 : decode cX7_breaks 57 = .ok (.invokestatic 249, 3) := by decide +kernel
theorem dX7_breaks_60 : decode cX7_breaks 60 = .ok (.iconst 0, 1) := by decide +kernel
theorem dX7_breaks_61 : decode cX7_breaks 61 = .ok (.iastore, 1) := by decide +kernel
theorem dX7_breaks_62 : decode cX7_breaks 62 = .ok (.aload_n 0, 1) := by decide +kernel
theorem dX7_breaks_63 : decode cX7_breaks 63 = .ok (.iload_n 1, 1) := by decide +kernel
theorem dX7_breaks_64 : decode cX7_breaks 64 = .ok (.aload_n 0, 1) := by decide +kernel
theorem dX7_breaks_65 : decode cX7_breaks 65 = .ok (.aload_n 0, 1) := by decide +kernel
theorem dX7_breaks_66 : decode cX7_breaks 66 = .ok (.getfield 7, 3) := by decide +kernel
theorem dX7_breaks_69 : decode cX7_breaks 69 = .ok (.iload_n 1, 1) := by decide +kernel
theorem dX7_breaks_70 : decode cX7_breaks 70 = .ok (.iconst 1, 1) := by decide +kernel
theorem dX7_breaks_71 : decode cX7_breaks 71 = .ok (.invokestatic 249, 3) := by decide +kernel
theorem dX7_breaks_74 : decode cX7_breaks 74 = .ok (.iaload, 1) := by decide +kernel
theorem dX7_breaks_75 : decode cX7_breaks 75 = .ok (.aload_n 0, 1) := by decide +kernel
theorem dX7_breaks_76 : decode cX7_breaks 76 = .ok (.getfield 7, 3) := by decide +kernel
theorem dX7_breaks_79 : decode cX7_breaks 79 = .ok (.iload_n 1, 1) := by decide +kernel
theorem dX7_breaks_80 : decode cX7_breaks 80 = .ok (.iconst 2, 1) := by decide +kernel
theorem dX7_breaks_81 : decode cX7_breaks 81 = .ok (.invokestatic 249, 3) := by decide +kernel
theorem dX7_breaks_84 : decode cX7_breaks 84 = .ok (.iaload, 1) := by decide +kernel
theorem dX7_breaks_85 : decode cX7_breaks 85 = .ok (.invokevirtual 262, 3) := by decide +kernel
theorem dX7_breaks_88 : decode cX7_breaks 88 = .ok (.invokevirtual 296, 3) := by decide +kernel
theorem dX7_breaks_91 : decode cX7_breaks 91 = .ok (.iconst 0, 1) := by decide +kernel
theorem dX7_breaks_92 : decode cX7_breaks 92 = .ok (.istore 4, 2) := by decide +kernel
theorem dX7_breaks_94 : decode cX7_breaks 94 = .ok (.iconst 0, 1) := by decide +kernel
theorem dX7_breaks_95 : decode cX7_breaks 95 = .ok (.istore 5, 2) := by decide +kernel
theorem dX7_breaks_97 : decode cX7_breaks 97 = .ok (.iload 5, 2) := by decide +kernel
theorem dX7_breaks_99 : decode cX7_breaks 99 = .ok (.aload_n 0, 1) := by decide +kernel
theorem dX7_breaks_100 : decode cX7_breaks 100 = .ok (.iload_n 1, 1) := by decide +kernel
theorem dX7_breaks_101 : decode cX7_breaks 101 = .ok (.invokevirtual 277, 3) := by decide +kernel
theorem dX7_breaks_104 : decode cX7_breaks 104 = .ok (.if_icmp .ge 59, 3) := by decide +kernel
theorem dX7_breaks_107 : decode cX7_breaks 107 = .ok (.iload_n 1, 1) := by decide +kernel
theorem dX7_breaks_108 : decode cX7_breaks 108 = .ok (.iload 5, 2) := by decide +kernel
theorem dX7_breaks_110 : decode cX7_breaks 110 = .ok (.invokestatic 280, 3) := by decide +kernel
theorem dX7_breaks_113 : decode cX7_breaks 113 = .ok (.istore 6, 2) := by decide +kernel
theorem dX7_breaks_115 : decode cX7_breaks 115 = .ok (.aload_n 0, 1) := by decide +kernel
theorem dX7_breaks_116 : decode cX7_breaks 116 = .ok (.getfield 7, 3) := by decide +kernel
theorem dX7_breaks_119 : decode cX7_breaks 119 = .ok (.iload 6, 2) := by decide +kernel
theorem dX7_breaks_121 : decode cX7_breaks 121 = .ok (.iconst 0, 1) := by decide +kernel
theorem dX7_breaks_122 : decode cX7_breaks 122 = .ok (.iadd, 1) := by decide +kernel
theorem dX7_breaks_123 : decode cX7_breaks 123 = .ok (.iaload, 1) := by decide +kernel
theorem dX7_breaks_124 : decode cX7_breaks 124 = .ok (.iconst 1, 1) := by decide +kernel
theorem dX7_breaks_125 : decode cX7_breaks 125 = .ok (.if_icmp .ne 32, 3) := by decide +kernel
theorem dX7_breaks_128 : decode cX7_breaks 128 = .ok (.aload_n 0, 1) := by decide +kernel
theorem dX7_breaks_129 : decode cX7_breaks 129 = .ok (.iload_n 1, 1) := by decide +kernel
theorem dX7_breaks_130 : decode cX7_breaks 130 = .ok (.aload_n 0, 1) := by decide +kernel
theorem dX7_breaks_131 : decode cX7_breaks 131 = .ok (.getfield 7, 3) := by decide +kernel
theorem dX7_breaks_134 : decode cX7_breaks 134 = .ok (.iload 6, 2) := by decide +kernel
theorem dX7_breaks_136 : decode cX7_breaks 136 = .ok (.iconst 4, 1) := by decide +kernel
theorem dX7_breaks_137 : decode cX7_breaks 137 = .ok (.iadd, 1) := by decide +kernel
theorem dX7_breaks_138 : decode cX7_breaks 138 = .ok (.iaload, 1) := by decide +kernel
theorem dX7_breaks_139 : decode cX7_breaks 139 = .ok (.iload_n 2, 1) := by decide +kernel
theorem dX7_breaks_140 : decode cX7_breaks 140 = .ok (.iload_n 3, 1) := by decide +kernel
theorem dX7_breaks_141 : decode cX7_breaks 141 = .ok (.invokevirtual 308, 3) := by decide +kernel
theorem dX7_breaks_144 : decode cX7_breaks 144 = .ok (.ifCond .eq 13, 3) := by decide +kernel
theorem dX7_breaks_147 : decode cX7_breaks 147 = .ok (.aload_n 0, 1) := by decide +kernel
theorem dX7_breaks_148 : decode cX7_breaks 148 = .ok (.iload_n 1, 1) := by decide +kernel
theorem dX7_breaks_149 : decode cX7_breaks 149 = .ok (.iload 6, 2) := by decide +kernel
theorem dX7_breaks_151 : decode cX7_breaks 151 = .ok (.invokevirtual 292, 3) := by decide +kernel
theorem dX7_breaks_154 : decode cX7_breaks 154 = .ok (.iinc 4 1, 3) := by decide +kernel
theorem dX7_breaks_157 : decode cX7_breaks 157 = .ok (.iinc 5 1, 3) := by decide +kernel
theorem dX7_breaks_160 : decode cX7_breaks 160 = .ok (.goto (-63), 3) := by decide +kernel
theorem dX7_breaks_163 : decode cX7_breaks 163 = .ok (.iload 4, 2) := by decide +kernel
theorem dX7_breaks_165 : decode cX7_breaks 165 = .ok (.ireturn, 1) := by decide +kernel
theorem dX7_ticksToDeliver_0 : decode cX7_ticksToDeliver 0 = .ok (.aload_n 0, 1) := by decide +kernel
theorem dX7_ticksToDeliver_1 : decode cX7_ticksToDeliver 1 = .ok (.iload_n 1, 1) := by decide +kernel
theorem dX7_ticksToDeliver_2 : decode cX7_ticksToDeliver 2 = .ok (.invokevirtual 271, 3) := by decide +kernel
theorem dX7_ticksToDeliver_5 : decode cX7_ticksToDeliver 5 = .ok (.ifCond .eq 5, 3) := by decide +kernel
theorem dX7_ticksToDeliver_8 : decode cX7_ticksToDeliver 8 = .ok (.iconst 0, 1) := by decide +kernel
theorem dX7_ticksToDeliver_9 : decode cX7_ticksToDeliver 9 = .ok (.ireturn, 1) := by decide +kernel
theorem dX7_ticksToDeliver_10 : decode cX7_ticksToDeliver 10 = .ok (.aload_n 0, 1) := by decide +kernel
theorem dX7_ticksToDeliver_11 : decode cX7_ticksToDeliver 11 = .ok (.getfield 7, 3) := by decide +kernel
theorem dX7_ticksToDeliver_14 : decode cX7_ticksToDeliver 14 = .ok (.iconst 0, 1) := by decide +kernel
theorem dX7_ticksToDeliver_15 : decode cX7_ticksToDeliver 15 = .ok (.aload_n 0, 1) := by decide +kernel
theorem dX7_ticksToDeliver_16 : decode cX7_ticksToDeliver 16 = .ok (.getfield 48, 3) := by decide +kernel
theorem dX7_ticksToDeliver_19 : decode cX7_ticksToDeliver 19 = .ok (.iconst 0, 1) := by decide +kernel
theorem dX7_ticksToDeliver_20 : decode cX7_ticksToDeliver 20 = .ok (.sipush 821, 3) := by decide +kernel
theorem dX7_ticksToDeliver_23 : decode cX7_ticksToDeliver 23 = .ok (.invokestatic 312, 3) := by decide +kernel
theorem dX7_ticksToDeliver_26 : decode cX7_ticksToDeliver 26 = .ok (.iconst 0, 1) := by decide +kernel
theorem dX7_ticksToDeliver_27 : decode cX7_ticksToDeliver 27 = .ok (.istore_n 2, 1) := by decide +kernel
theorem dX7_ticksToDeliver_28 : decode cX7_ticksToDeliver 28 = .ok (.iload_n 2, 1) := by decide +kernel
theorem dX7_ticksToDeliver_29 : decode cX7_ticksToDeliver 29 = .ok (.sipush 300, 3) := by decide +kernel
theorem dX7_ticksToDeliver_32 : decode cX7_ticksToDeliver 32 = .ok (.if_icmp .ge 22, 3) := by decide +kernel
theorem dX7_ticksToDeliver_35 : decode cX7_ticksToDeliver 35 = .ok (.aload_n 0, 1) := by decide +kernel
theorem dX7_ticksToDeliver_36 : decode cX7_ticksToDeliver 36 = .ok (.iload_n 1, 1) := by decide +kernel
theorem dX7_ticksToDeliver_37 : decode cX7_ticksToDeliver 37 = .ok (.invokevirtual 277, 3) := by decide +kernel
theorem dX7_ticksToDeliver_40 : decode cX7_ticksToDeliver 40 = .ok (.ifCond .le 14, 3) := by decide +kernel
theorem dX7_ticksToDeliver_43 : decode cX7_ticksToDeliver 43 = .ok (.aload_n 0, 1) := by decide +kernel
theorem dX7_ticksToDeliver_44 : decode cX7_ticksToDeliver 44 = .ok (.invokevirtual 316, 3) := by decide +kernel
theorem dX7_ticksToDeliver_47 : decode cX7_ticksToDeliver 47 = .ok (.pop, 1) := by decide +kernel
theorem dX7_ticksToDeliver_48 : decode cX7_ticksToDeliver 48 = .ok (.iinc 2 1, 3) := by decide +kernel
theorem dX7_ticksToDeliver_51 : decode cX7_ticksToDeliver 51 = .ok (.goto (-23), 3) := by decide +kernel
theorem dX7_ticksToDeliver_54 : decode cX7_ticksToDeliver 54 = .ok (.aload_n 0, 1) := by decide +kernel
theorem dX7_ticksToDeliver_55 : decode cX7_ticksToDeliver 55 = .ok (.iload_n 1, 1) := by decide +kernel
theorem dX7_ticksToDeliver_56 : decode cX7_ticksToDeliver 56 = .ok (.invokevirtual 277, 3) := by decide +kernel
theorem dX7_ticksToDeliver_59 : decode cX7_ticksToDeliver 59 = .ok (.ifCond .ne 7, 3) := by decide +kernel
theorem dX7_ticksToDeliver_62 : decode cX7_ticksToDeliver 62 = .ok (.iconst 1, 1) := by decide +kernel
theorem dX7_ticksToDeliver_63 : decode cX7_ticksToDeliver 63 = .ok (.goto 4, 3) := by decide +kernel
theorem dX7_ticksToDeliver_66 : decode cX7_ticksToDeliver 66 = .ok (.iconst 0, 1) := by decide +kernel
theorem dX7_ticksToDeliver_67 : decode cX7_ticksToDeliver 67 = .ok (.istore_n 3, 1) := by decide +kernel
theorem dX7_ticksToDeliver_68 : decode cX7_ticksToDeliver 68 = .ok (.aload_n 0, 1) := by decide +kernel
theorem dX7_ticksToDeliver_69 : decode cX7_ticksToDeliver 69 = .ok (.getfield 48, 3) := by decide +kernel
theorem dX7_ticksToDeliver_72 : decode cX7_ticksToDeliver 72 = .ok (.iconst 0, 1) := by decide +kernel
theorem dX7_ticksToDeliver_73 : decode cX7_ticksToDeliver 73 = .ok (.aload_n 0, 1) := by decide +kernel
theorem dX7_ticksToDeliver_74 : decode cX7_ticksToDeliver 74 = .ok (.getfield 7, 3) := by decide +kernel
theorem dX7_ticksToDeliver_77 : decode cX7_ticksToDeliver 77 = .ok (.iconst 0, 1) := by decide +kernel
theorem dX7_ticksToDeliver_78 : decode cX7_ticksToDeliver 78 = .ok (.sipush 821, 3) := by decide +kernel
theorem dX7_ticksToDeliver_81 : decode cX7_ticksToDeliver 81 = .ok (.invokestatic 312, 3) := by decide +kernel
theorem dX7_ticksToDeliver_84 : decode cX7_ticksToDeliver 84 = .ok (.iload_n 3, 1) := by decide +kernel
theorem dX7_ticksToDeliver_85 : decode cX7_ticksToDeliver 85 = .ok (.ifCond .eq 7, 3) := by decide +kernel
theorem dX7_ticksToDeliver_88 : decode cX7_ticksToDeliver 88 = .ok (.iload_n 2, 1) := by decide +kernel
theorem dX7_ticksToDeliver_89 : decode cX7_ticksToDeliver 89 = .ok (.goto 4, 3) := by decide +kernel
theorem dX7_ticksToDeliver_92 : decode cX7_ticksToDeliver 92 = .ok (.iconst (-1), 1) := by decide +kernel
theorem dX7_ticksToDeliver_93 : decode cX7_ticksToDeliver 93 = .ok (.ireturn, 1) := by decide +kernel
theorem dX7_ticksToDirect_0 : decode cX7_ticksToDirect 0 = .ok (.aload_n 0, 1) := by decide +kernel
theorem dX7_ticksToDirect_1 : decode cX7_ticksToDirect 1 = .ok (.iload_n 1, 1) := by decide +kernel
theorem dX7_ticksToDirect_2 : decode cX7_ticksToDirect 2 = .ok (.invokevirtual 271, 3) := by decide +kernel
theorem dX7_ticksToDirect_5 : decode cX7_ticksToDirect 5 = .ok (.ifCond .eq 5, 3) := by decide +kernel
theorem dX7_ticksToDirect_8 : decode cX7_ticksToDirect 8 = .ok (.iconst 0, 1) := by decide +kernel
theorem dX7_ticksToDirect_9 : decode cX7_ticksToDirect 9 = .ok (.ireturn, 1) := by decide +kernel
theorem dX7_ticksToDirect_10 : decode cX7_ticksToDirect 10 = .ok (.aload_n 0, 1) := by decide +kernel
theorem dX7_ticksToDirect_11 : decode cX7_ticksToDirect 11 = .ok (.getfield 7, 3) := by decide +kernel
theorem dX7_ticksToDirect_14 : decode cX7_ticksToDirect 14 = .ok (.iconst 0, 1) := by decide +kernel
theorem dX7_ticksToDirect_15 : decode cX7_ticksToDirect 15 = .ok (.aload_n 0, 1) := by decide +kernel
theorem dX7_ticksToDirect_16 : decode cX7_ticksToDirect 16 = .ok (.getfield 48, 3) := by decide +kernel
theorem dX7_ticksToDirect_19 : decode cX7_ticksToDirect 19 = .ok (.iconst 0, 1) := by decide +kernel
theorem dX7_ticksToDirect_20 : decode cX7_ticksToDirect 20 = .ok (.sipush 821, 3) := by decide +kernel
theorem dX7_ticksToDirect_23 : decode cX7_ticksToDirect 23 = .ok (.invokestatic 312, 3) := by decide +kernel
theorem dX7_ticksToDirect_26 : decode cX7_ticksToDirect 26 = .ok (.iconst 0, 1) := by decide +kernel
theorem dX7_ticksToDirect_27 : decode cX7_ticksToDirect 27 = .ok (.istore_n 2, 1) := by decide +kernel
theorem dX7_ticksToDirect_28 : decode cX7_ticksToDirect 28 = .ok (.iload_n 2, 1) := by decide +kernel
theorem dX7_ticksToDirect_29 : decode cX7_ticksToDirect 29 = .ok (.sipush 300, 3) := by decide +kernel
theorem dX7_ticksToDirect_32 : decode cX7_ticksToDirect 32 = .ok (.if_icmp .ge 29, 3) := by decide +kernel
theorem dX7_ticksToDirect_35 : decode cX7_ticksToDirect 35 = .ok (.aload_n 0, 1) := by decide +kernel
theorem dX7_ticksToDirect_36 : decode cX7_ticksToDirect 36 = .ok (.getfield 7, 3) := by decide +kernel
theorem dX7_ticksToDirect_39 : decode cX7_ticksToDirect 39 = .ok (.iload_n 1, 1) := by decide +kernel
theorem dX7_ticksToDirect_40 : decode cX7_ticksToDirect 40 = .ok (.iconst 3, 1) := by decide +kernel
theorem dX7_ticksToDirect_41 : decode cX7_ticksToDirect 41 = .ok (.invokestatic 249, 3) := by decide +kernel
theorem dX7_ticksToDirect_44 : decode cX7_ticksToDirect 44 = .ok (.iaload, 1) := by decide +kernel
theorem dX7_ticksToDirect_45 : decode cX7_ticksToDirect 45 = .ok (.bipush 100, 2) := by decide +kernel
theorem dX7_ticksToDirect_47 : decode cX7_ticksToDirect 47 = .ok (.if_icmp .eq 14, 3) := by decide +kernel
theorem dX7_ticksToDirect_50 : decode cX7_ticksToDirect 50 = .ok (.aload_n 0, 1) := by decide +kernel
theorem dX7_ticksToDirect_51 : decode cX7_ticksToDirect 51 = .ok (.invokevirtual 316, 3) := by decide +kernel
theorem dX7_ticksToDirect_54 : decode cX7_ticksToDirect 54 = .ok (.pop, 1) := by decide +kernel
theorem dX7_ticksToDirect_55 : decode cX7_ticksToDirect 55 = .ok (.iinc 2 1, 3) := by decide +kernel
theorem dX7_ticksToDirect_58 : decode cX7_ticksToDirect 58 = .ok (.goto (-30), 3) := by decide +kernel
theorem dX7_ticksToDirect_61 : decode cX7_ticksToDirect 61 = .ok (.aload_n 0, 1) := by decide +kernel
theorem dX7_ticksToDirect_62 : decode cX7_ticksToDirect 62 = .ok (.getfield 7, 3) := by decide +kernel
theorem dX7_ticksToDirect_65 : decode cX7_ticksToDirect 65 = .ok (.iload_n 1, 1) := by decide +kernel
theorem dX7_ticksToDirect_66 : decode cX7_ticksToDirect 66 = .ok (.iconst 3, 1) := by decide +kernel
theorem dX7_ticksToDirect_67 : decode cX7_ticksToDirect 67 = .ok (.invokestatic 249, 3) := by decide +kernel
theorem dX7_ticksToDirect_70 : decode cX7_ticksToDirect 70 = .ok (.iaload, 1) := by decide +kernel
theorem dX7_ticksToDirect_71 : decode cX7_ticksToDirect 71 = .ok (.bipush 100, 2) := by decide +kernel
theorem dX7_ticksToDirect_73 : decode cX7_ticksToDirect 73 = .ok (.if_icmp .ne 7, 3) := by decide +kernel
theorem dX7_ticksToDirect_76 : decode cX7_ticksToDirect 76 = .ok (.iconst 1, 1) := by decide +kernel
theorem dX7_ticksToDirect_77 : decode cX7_ticksToDirect 77 = .ok (.goto 4, 3) := by decide +kernel
theorem dX7_ticksToDirect_80 : decode cX7_ticksToDirect 80 = .ok (.iconst 0, 1) := by decide +kernel
theorem dX7_ticksToDirect_81 : decode cX7_ticksToDirect 81 = .ok (.istore_n 3, 1) := by decide +kernel
theorem dX7_ticksToDirect_82 : decode cX7_ticksToDirect 82 = .ok (.aload_n 0, 1) := by decide +kernel
theorem dX7_ticksToDirect_83 : decode cX7_ticksToDirect 83 = .ok (.getfield 48, 3) := by decide +kernel
theorem dX7_ticksToDirect_86 : decode cX7_ticksToDirect 86 = .ok (.iconst 0, 1) := by decide +kernel
theorem dX7_ticksToDirect_87 : decode cX7_ticksToDirect 87 = .ok (.aload_n 0, 1) := by decide +kernel
theorem dX7_ticksToDirect_88 : decode cX7_ticksToDirect 88 = .ok (.getfield 7, 3) := by decide +kernel
theorem dX7_ticksToDirect_91 : decode cX7_ticksToDirect 91 = .ok (.iconst 0, 1) := by decide +kernel
theorem dX7_ticksToDirect_92 : decode cX7_ticksToDirect 92 = .ok (.sipush 821, 3) := by decide +kernel
theorem dX7_ticksToDirect_95 : decode cX7_ticksToDirect 95 = .ok (.invokestatic 312, 3) := by decide +kernel
theorem dX7_ticksToDirect_98 : decode cX7_ticksToDirect 98 = .ok (.iload_n 3, 1) := by decide +kernel
theorem dX7_ticksToDirect_99 : decode cX7_ticksToDirect 99 = .ok (.ifCond .eq 7, 3) := by decide +kernel
theorem dX7_ticksToDirect_102 : decode cX7_ticksToDirect 102 = .ok (.iload_n 2, 1) := by decide +kernel
theorem dX7_ticksToDirect_103 : decode cX7_ticksToDirect 103 = .ok (.goto 4, 3) := by decide +kernel
theorem dX7_ticksToDirect_106 : decode cX7_ticksToDirect 106 = .ok (.iconst (-1), 1) := by decide +kernel
theorem dX7_ticksToDirect_107 : decode cX7_ticksToDirect 107 = .ok (.ireturn, 1) := by decide +kernel
theorem dX7_run_0 : decode cX7_run 0 = .ok (.aload_n 0, 1) := by decide +kernel
theorem dX7_run_1 : decode cX7_run 1 = .ok (.iconst 0, 1) := by decide +kernel
theorem dX7_run_2 : decode cX7_run 2 = .ok (.putfield 70, 3) := by decide +kernel
theorem dX7_run_5 : decode cX7_run 5 = .ok (.aload_n 0, 1) := by decide +kernel
theorem dX7_run_6 : decode cX7_run 6 = .ok (.iload_n 1, 1) := by decide +kernel
theorem dX7_run_7 : decode cX7_run 7 = .ok (.iconst 1, 1) := by decide +kernel
theorem dX7_run_8 : decode cX7_run 8 = .ok (.sipush 300, 3) := by decide +kernel
theorem dX7_run_11 : decode cX7_run 11 = .ok (.invokestatic 107, 3) := by decide +kernel
theorem dX7_run_14 : decode cX7_run 14 = .ok (.ifCond .ne 7, 3) := by decide +kernel
theorem dX7_run_17 : decode cX7_run 17 = .ok (.iconst 1, 1) := by decide +kernel
theorem dX7_run_18 : decode cX7_run 18 = .ok (.goto 4, 3) := by decide +kernel
theorem dX7_run_21 : decode cX7_run 21 = .ok (.iconst 0, 1) := by decide +kernel
theorem dX7_run_22 : decode cX7_run 22 = .ok (.iconst 1, 1) := by decide +kernel
theorem dX7_run_23 : decode cX7_run 23 = .ok (.invokevirtual 224, 3) := by decide +kernel
theorem dX7_run_26 : decode cX7_run 26 = .ok (.ifCond .ne 30, 3) := by decide +kernel
theorem dX7_run_29 : decode cX7_run 29 = .ok (.aload_n 0, 1) := by decide +kernel
theorem dX7_run_30 : decode cX7_run 30 = .ok (.aload_n 0, 1) := by decide +kernel
theorem dX7_run_31 : decode cX7_run 31 = .ok (.getfield 7, 3) := by decide +kernel
theorem dX7_run_34 : decode cX7_run 34 = .ok (.iconst 0, 1) := by decide +kernel
theorem dX7_run_35 : decode cX7_run 35 = .ok (.iaload, 1) := by decide +kernel
theorem dX7_run_36 : decode cX7_run 36 = .ok (.iload_n 1, 1) := by decide +kernel
theorem dX7_run_37 : decode cX7_run 37 = .ok (.iadd, 1) := by decide +kernel
theorem dX7_run_38 : decode cX7_run 38 = .ok (.sipush 9999, 3) := by decide +kernel
theorem dX7_run_41 : decode cX7_run 41 = .ok (.if_icmp .le 7, 3) := by decide +kernel
theorem dX7_run_44 : decode cX7_run 44 = .ok (.iconst 1, 1) := by decide +kernel
theorem dX7_run_45 : decode cX7_run 45 = .ok (.goto 4, 3) := by decide +kernel
theorem dX7_run_48 : decode cX7_run 48 = .ok (.iconst 0, 1) := by decide +kernel
theorem dX7_run_49 : decode cX7_run 49 = .ok (.iconst 2, 1) := by decide +kernel
theorem dX7_run_50 : decode cX7_run 50 = .ok (.invokevirtual 224, 3) := by decide +kernel
theorem dX7_run_53 : decode cX7_run 53 = .ok (.ifCond .eq 5, 3) := by decide +kernel
theorem dX7_run_56 : decode cX7_run 56 = .ok (.iconst 0, 1) := by decide +kernel
theorem dX7_run_57 : decode cX7_run 57 = .ok (.ireturn, 1) := by decide +kernel
theorem dX7_run_58 : decode cX7_run 58 = .ok (.aload_n 0, 1) := by decide +kernel
theorem dX7_run_59 : decode cX7_run 59 = .ok (.invokevirtual 319, 3) := by decide +kernel
theorem dX7_run_62 : decode cX7_run 62 = .ok (.iconst 0, 1) := by decide +kernel
theorem dX7_run_63 : decode cX7_run 63 = .ok (.istore_n 2, 1) := by decide +kernel
theorem dX7_run_64 : decode cX7_run 64 = .ok (.iconst 0, 1) := by decide +kernel
theorem dX7_run_65 : decode cX7_run 65 = .ok (.istore_n 3, 1) := by decide +kernel
theorem dX7_run_66 : decode cX7_run 66 = .ok (.iload_n 3, 1) := by decide +kernel
theorem dX7_run_67 : decode cX7_run 67 = .ok (.iload_n 1, 1) := by decide +kernel
theorem dX7_run_68 : decode cX7_run 68 = .ok (.if_icmp .ge 16, 3) := by decide +kernel
theorem dX7_run_71 : decode cX7_run 71 = .ok (.iload_n 2, 1) := by decide +kernel
theorem dX7_run_72 : decode cX7_run 72 = .ok (.aload_n 0, 1) := by decide +kernel
theorem dX7_run_73 : decode cX7_run 73 = .ok (.invokevirtual 316, 3) := by decide +kernel
theorem dX7_run_76 : decode cX7_run 76 = .ok (.iadd, 1) := by decide +kernel
theorem dX7_run_77 : decode cX7_run 77 = .ok (.istore_n 2, 1) := by decide +kernel
theorem dX7_run_78 : decode cX7_run 78 = .ok (.iinc 3 1, 3) := by decide +kernel
theorem dX7_run_81 : decode cX7_run 81 = .ok (.goto (-15), 3) := by decide +kernel
theorem dX7_run_84 : decode cX7_run 84 = .ok (.iload_n 2, 1) := by decide +kernel
theorem dX7_run_85 : decode cX7_run 85 = .ok (.ireturn, 1) := by decide +kernel
theorem dX7_introduce_0 : decode cX7_introduce 0 = .ok (.aload_n 0, 1) := by decide +kernel
theorem dX7_introduce_1 : decode cX7_introduce 1 = .ok (.iload_n 1, 1) := by decide +kernel
theorem dX7_introduce_2 : decode cX7_introduce 2 = .ok (.iload_n 2, 1) := by decide +kernel
theorem dX7_introduce_3 : decode cX7_introduce 3 = .ok (.iload_n 3, 1) := by decide +kernel
theorem dX7_introduce_4 : decode cX7_introduce 4 = .ok (.invokevirtual 265, 3) := by decide +kernel
theorem dX7_introduce_7 : decode cX7_introduce 7 = .ok (.ifCond .ne 43, 3) := by decide +kernel
theorem dX7_introduce_10 : decode cX7_introduce 10 = .ok (.aload_n 0, 1) := by decide +kernel
theorem dX7_introduce_11 : decode cX7_introduce 11 = .ok (.aload_n 0, 1) := by decide +kernel
theorem dX7_introduce_12 : decode cX7_introduce 12 = .ok (.iload_n 1, 1) := by decide +kernel
theorem dX7_introduce_13 : decode cX7_introduce 13 = .ok (.iload_n 2, 1) := by decide +kernel
theorem dX7_introduce_14 : decode cX7_introduce 14 = .ok (.invokevirtual 240, 3) := by decide +kernel
theorem dX7_introduce_17 : decode cX7_introduce 17 = .ok (.ifCond .eq 21, 3) := by decide +kernel
theorem dX7_introduce_20 : decode cX7_introduce 20 = .ok (.aload_n 0, 1) := by decide +kernel
theorem dX7_introduce_21 : decode cX7_introduce 21 = .ok (.iload_n 1, 1) := by decide +kernel
theorem dX7_introduce_22 : decode cX7_introduce 22 = .ok (.iload_n 3, 1) := by decide +kernel
theorem dX7_introduce_23 : decode cX7_introduce 23 = .ok (.invokevirtual 240, 3) := by decide +kernel
theorem dX7_introduce_26 : decode cX7_introduce 26 = .ok (.ifCond .eq 12, 3) := by decide +kernel
theorem dX7_introduce_29 : decode cX7_introduce 29 = .ok (.aload_n 0, 1) := by decide +kernel
theorem dX7_introduce_30 : decode cX7_introduce 30 = .ok (.iload_n 2, 1) := by decide +kernel
theorem dX7_introduce_31 : decode cX7_introduce 31 = .ok (.iload_n 3, 1) := by decide +kernel
theorem dX7_introduce_32 : decode cX7_introduce 32 = .ok (.invokevirtual 240, 3) := by decide +kernel
theorem dX7_introduce_35 : decode cX7_introduce 35 = .ok (.ifCond .eq 7, 3) := by decide +kernel
theorem dX7_introduce_38 : decode cX7_introduce 38 = .ok (.iconst 1, 1) := by decide +kernel
theorem dX7_introduce_39 : decode cX7_introduce 39 = .ok (.goto 4, 3) := by decide +kernel
theorem dX7_introduce_42 : decode cX7_introduce 42 = .ok (.iconst 0, 1) := by decide +kernel
theorem dX7_introduce_43 : decode cX7_introduce 43 = .ok (.iconst 3, 1) := by decide +kernel
theorem dX7_introduce_44 : decode cX7_introduce 44 = .ok (.invokevirtual 224, 3) := by decide +kernel
theorem dX7_introduce_47 : decode cX7_introduce 47 = .ok (.ifCond .eq 5, 3) := by decide +kernel
theorem dX7_introduce_50 : decode cX7_introduce 50 = .ok (.iconst 0, 1) := by decide +kernel
theorem dX7_introduce_51 : decode cX7_introduce 51 = .ok (.ireturn, 1) := by decide +kernel
theorem dX7_introduce_52 : decode cX7_introduce 52 = .ok (.aload_n 0, 1) := by decide +kernel
theorem dX7_introduce_53 : decode cX7_introduce 53 = .ok (.invokevirtual 319, 3) := by decide +kernel
theorem dX7_introduce_56 : decode cX7_introduce 56 = .ok (.aload_n 0, 1) := by decide +kernel
theorem dX7_introduce_57 : decode cX7_introduce 57 = .ok (.getfield 7, 3) := by decide +kernel
theorem dX7_introduce_60 : decode cX7_introduce 60 = .ok (.iconst 1, 1) := by decide +kernel
theorem dX7_introduce_61 : decode cX7_introduce 61 = .ok (.iload_n 2, 1) := by decide +kernel
theorem dX7_introduce_62 : decode cX7_introduce 62 = .ok (.iadd, 1) := by decide +kernel
theorem dX7_introduce_63 : decode cX7_introduce 63 = .ok (.dup2, 1) := by decide +kernel
theorem dX7_introduce_64 : decode cX7_introduce 64 = .ok (.iaload, 1) := by decide +kernel
theorem dX7_introduce_65 : decode cX7_introduce 65 = .ok (.iconst 1, 1) := by decide +kernel
theorem dX7_introduce_66 : decode cX7_introduce 66 = .ok (.iload_n 3, 1) := by decide +kernel
theorem dX7_introduce_67 : decode cX7_introduce 67 = .ok (.ishl, 1) := by decide +kernel
theorem dX7_introduce_68 : decode cX7_introduce 68 = .ok (.ior, 1) := by decide +kernel
theorem dX7_introduce_69 : decode cX7_introduce 69 = .ok (.iastore, 1) := by decide +kernel
theorem dX7_introduce_70 : decode cX7_introduce 70 = .ok (.aload_n 0, 1) := by decide +kernel
theorem dX7_introduce_71 : decode cX7_introduce 71 = .ok (.getfield 7, 3) := by decide +kernel
theorem dX7_introduce_74 : decode cX7_introduce 74 = .ok (.iconst 1, 1) := by decide +kernel
theorem dX7_introduce_75 : decode cX7_introduce 75 = .ok (.iload_n 3, 1) := by decide +kernel
theorem dX7_introduce_76 : decode cX7_introduce 76 = .ok (.iadd, 1) := by decide +kernel
theorem dX7_introduce_77 : decode cX7_introduce 77 = .ok (.dup2, 1) := by decide +kernel
theorem dX7_introduce_78 : decode cX7_introduce 78 = .ok (.iaload, 1) := by decide +kernel
theorem dX7_introduce_79 : decode cX7_introduce 79 = .ok (.iconst 1, 1) := by decide +kernel
theorem dX7_introduce_80 : decode cX7_introduce 80 = .ok (.iload_n 2, 1) := by decide +kernel
theorem dX7_introduce_81 : decode cX7_introduce 81 = .ok (.ishl, 1) := by decide +kernel
theorem dX7_introduce_82 : decode cX7_introduce 82 = .ok (.ior, 1) := by decide +kernel
theorem dX7_introduce_83 : decode cX7_introduce 83 = .ok (.iastore, 1) := by decide +kernel
theorem dX7_introduce_84 : decode cX7_introduce 84 = .ok (.aload_n 0, 1) := by decide +kernel
theorem dX7_introduce_85 : decode cX7_introduce 85 = .ok (.getfield 7, 3) := by decide +kernel
theorem dX7_introduce_88 : decode cX7_introduce 88 = .ok (.iconst 1, 1) := by decide +kernel
theorem dX7_introduce_89 : decode cX7_introduce 89 = .ok (.iload_n 2, 1) := by decide +kernel
theorem dX7_introduce_90 : decode cX7_introduce 90 = .ok (.iadd, 1) := by decide +kernel
theorem dX7_introduce_91 : decode cX7_introduce 91 = .ok (.iaload, 1) := by decide +kernel
theorem dX7_introduce_92 : decode cX7_introduce 92 = .ok (.invokestatic 322, 3) := by decide +kernel
theorem dX7_introduce_95 : decode cX7_introduce 95 = .ok (.ireturn, 1) := by decide +kernel
theorem dX7_open_0 : decode cX7_open 0 = .ok (.aload_n 0, 1) := by decide +kernel
theorem dX7_open_1 : decode cX7_open 1 = .ok (.iload_n 1, 1) := by decide +kernel
theorem dX7_open_2 : decode cX7_open 2 = .ok (.iload_n 2, 1) := by decide +kernel
theorem dX7_open_3 : decode cX7_open 3 = .ok (.invokevirtual 246, 3) := by decide +kernel
theorem dX7_open_6 : decode cX7_open 6 = .ok (.ifCond .eq 5, 3) := by decide +kernel
theorem dX7_open_9 : decode cX7_open 9 = .ok (.iconst 0, 1) := by decide +kernel
theorem dX7_open_10 : decode cX7_open 10 = .ok (.ireturn, 1) := by decide +kernel
theorem dX7_open_11 : decode cX7_open 11 = .ok (.iconst 0, 1) := by decide +kernel
theorem dX7_open_12 : decode cX7_open 12 = .ok (.istore_n 3, 1) := by decide +kernel
theorem dX7_open_13 : decode cX7_open 13 = .ok (.iload_n 3, 1) := by decide +kernel
theorem dX7_open_14 : decode cX7_open 14 = .ok (.bipush 6, 2) := by decide +kernel
theorem dX7_open_16 : decode cX7_open 16 = .ok (.if_icmp .ge 17, 3) := by decide +kernel
theorem dX7_open_19 : decode cX7_open 19 = .ok (.aload_n 0, 1) := by decide +kernel
theorem dX7_open_20 : decode cX7_open 20 = .ok (.iload_n 3, 1) := by decide +kernel
theorem dX7_open_21 : decode cX7_open 21 = .ok (.invokevirtual 253, 3) := by decide +kernel
theorem dX7_open_24 : decode cX7_open 24 = .ok (.ifCond .eq 9, 3) := by decide +kernel
theorem dX7_open_27 : decode cX7_open 27 = .ok (.iinc 3 1, 3) := by decide +kernel
theorem dX7_open_30 : decode cX7_open 30 = .ok (.goto (-17), 3) := by decide +kernel
theorem dX7_open_33 : decode cX7_open 33 = .ok (.aload_n 0, 1) := by decide +kernel
theorem dX7_open_34 : decode cX7_open 34 = .ok (.aload_n 0, 1) := by decide +kernel
theorem dX7_open_35 : decode cX7_open 35 = .ok (.iload_n 1, 1) := by decide +kernel
theorem dX7_open_36 : decode cX7_open 36 = .ok (.iload_n 2, 1) := by decide +kernel
theorem dX7_open_37 : decode cX7_open 37 = .ok (.invokevirtual 240, 3) := by decide +kernel
theorem dX7_open_40 : decode cX7_open 40 = .ok (.ifCond .eq 19, 3) := by decide +kernel
theorem dX7_open_43 : decode cX7_open 43 = .ok (.aload_n 0, 1) := by decide +kernel
theorem dX7_open_44 : decode cX7_open 44 = .ok (.iload_n 1, 1) := by decide +kernel
theorem dX7_open_45 : decode cX7_open 45 = .ok (.iload_n 2, 1) := by decide +kernel
theorem dX7_open_46 : decode cX7_open 46 = .ok (.invokevirtual 268, 3) := by decide +kernel
theorem dX7_open_49 : decode cX7_open 49 = .ok (.iconst (-1), 1) := by decide +kernel
theorem dX7_open_50 : decode cX7_open 50 = .ok (.if_icmp .ne 9, 3) := by decide +kernel
theorem dX7_open_53 : decode cX7_open 53 = .ok (.iload_n 3, 1) := by decide +kernel
theorem dX7_open_54 : decode cX7_open 54 = .ok (.bipush 6, 2) := by decide +kernel
theorem dX7_open_56 : decode cX7_open 56 = .ok (.if_icmp .ne 7, 3) := by decide +kernel
theorem dX7_open_59 : decode cX7_open 59 = .ok (.iconst 1, 1) := by decide +kernel
theorem dX7_open_60 : decode cX7_open 60 = .ok (.goto 4, 3) := by decide +kernel
theorem dX7_open_63 : decode cX7_open 63 = .ok (.iconst 0, 1) := by decide +kernel
theorem dX7_open_64 : decode cX7_open 64 = .ok (.iconst 3, 1) := by decide +kernel
theorem dX7_open_65 : decode cX7_open 65 = .ok (.invokevirtual 224, 3) := by decide +kernel
theorem dX7_open_68 : decode cX7_open 68 = .ok (.ifCond .eq 5, 3) := by decide +kernel
theorem dX7_open_71 : decode cX7_open 71 = .ok (.iconst 0, 1) := by decide +kernel
theorem dX7_open_72 : decode cX7_open 72 = .ok (.ireturn, 1) := by decide +kernel
theorem dX7_open_73 : decode cX7_open 73 = .ok (.aload_n 0, 1) := by decide +kernel
theorem dX7_open_74 : decode cX7_open 74 = .ok (.invokevirtual 319, 3) := by decide +kernel
theorem dX7_open_77 : decode cX7_open 77 = .ok (.aload_n 0, 1) := by decide +kernel
theorem dX7_open_78 : decode cX7_open 78 = .ok (.iload_n 1, 1) := by decide +kernel
theorem dX7_open_79 : decode cX7_open 79 = .ok (.iload_n 2, 1) := by decide +kernel
theorem dX7_open_80 : decode cX7_open 80 = .ok (.invokevirtual 262, 3) := by decide +kernel
theorem dX7_open_83 : decode cX7_open 83 = .ok (.istore 4, 2) := by decide +kernel
theorem dX7_open_85 : decode cX7_open 85 = .ok (.iconst 0, 1) := by decide +kernel
theorem dX7_open_86 : decode cX7_open 86 = .ok (.istore 5, 2) := by decide +kernel
theorem dX7_open_88 : decode cX7_open 88 = .ok (.iload 5, 2) := by decide +kernel
theorem dX7_open_90 : decode cX7_open 90 = .ok (.sipush 134, 3) := by decide +kernel
theorem dX7_open_93 : decode cX7_open 93 = .ok (.if_icmp .ge 21, 3) := by decide +kernel
theorem dX7_open_96 : decode cX7_open 96 = .ok (.aload_n 0, 1) := by decide +kernel
theorem dX7_open_97 : decode cX7_open 97 = .ok (.getfield 7, 3) := by decide +kernel
theorem dX7_open_100 : decode cX7_open 100 = .ok (.iload_n 3, 1) := by decide +kernel
theorem dX7_open_101 : decode cX7_open 101 = .ok (.iload 5, 2) := by decide +kernel
theorem dX7_open_103 : decode cX7_open 103 = .ok (.invokestatic 249, 3) := by decide +kernel
theorem dX7_open_106 : decode cX7_open 106 = .ok (.iconst 0, 1) := by decide +kernel
theorem dX7_open_107 : decode cX7_open 107 = .ok (.iastore, 1) := by decide +kernel
theorem dX7_open_108 : decode cX7_open 108 = .ok (.iinc 5 1, 3) := by decide +kernel
theorem dX7_open_111 : decode cX7_open 111 = .ok (.goto (-23), 3) := by decide +kernel
theorem dX7_open_114 : decode cX7_open 114 = .ok (.aload_n 0, 1) := by decide +kernel
theorem dX7_open_115 : decode cX7_open 115 = .ok (.getfield 7, 3) := by decide +kernel
theorem dX7_open_118 : decode cX7_open 118 = .ok (.iload_n 3, 1) := by decide +kernel
theorem dX7_open_119 : decode cX7_open 119 = .ok (.iconst 0, 1) := by decide +kernel
theorem dX7_open_120 : decode cX7_open 120 = .ok (.invokestatic 249, 3) := by decide +kernel
theorem dX7_open_123 : decode cX7_open 123 = .ok (.iconst 1, 1) := by decide +kernel
theorem dX7_open_124 : decode cX7_open 124 = .ok (.iastore, 1) := by decide +kernel
theorem dX7_open_125 : decode cX7_open 125 = .ok (.aload_n 0, 1) := by decide +kernel
theorem dX7_open_126 : decode cX7_open 126 = .ok (.getfield 7, 3) := by decide +kernel
theorem dX7_open_129 : decode cX7_open 129 = .ok (.iload_n 3, 1) := by decide +kernel
theorem dX7_open_130 : decode cX7_open 130 = .ok (.iconst 1, 1) := by decide +kernel
theorem dX7_open_131 : decode cX7_open 131 = .ok (.invokestatic 249, 3) := by decide +kernel
theorem dX7_open_134 : decode cX7_open 134 = .ok (.iload_n 1, 1) := by decide +kernel
theorem dX7_open_135 : decode cX7_open 135 = .ok (.iastore, 1) := by decide +kernel
theorem dX7_open_136 : decode cX7_open 136 = .ok (.aload_n 0, 1) := by decide +kernel
theorem dX7_open_137 : decode cX7_open 137 = .ok (.getfield 7, 3) := by decide +kernel
theorem dX7_open_140 : decode cX7_open 140 = .ok (.iload_n 3, 1) := by decide +kernel
theorem dX7_open_141 : decode cX7_open 141 = .ok (.iconst 2, 1) := by decide +kernel
theorem dX7_open_142 : decode cX7_open 142 = .ok (.invokestatic 249, 3) := by decide +kernel
theorem dX7_open_145 : decode cX7_open 145 = .ok (.iload_n 2, 1) := by decide +kernel
theorem dX7_open_146 : decode cX7_open 146 = .ok (.iastore, 1) := by decide +kernel
theorem dX7_open_147 : decode cX7_open 147 = .ok (.aload_n 0, 1) := by decide +kernel
theorem dX7_open_148 : decode cX7_open 148 = .ok (.getfield 7, 3) := by decide +kernel
theorem dX7_open_151 : decode cX7_open 151 = .ok (.iload_n 3, 1) := by decide +kernel
theorem dX7_open_152 : decode cX7_open 152 = .ok (.iconst 3, 1) := by decide +kernel
theorem dX7_open_153 : decode cX7_open 153 = .ok (.invokestatic 249, 3) := by decide +kernel
theorem dX7_open_156 : decode cX7_open 156 = .ok (.iload 4, 2) := by decide +kernel
theorem dX7_open_158 : decode cX7_open 158 = .ok (.iastore, 1) := by decide +kernel
theorem dX7_open_159 : decode cX7_open 159 = .ok (.aload_n 0, 1) := by decide +kernel
theorem dX7_open_160 : decode cX7_open 160 = .ok (.getfield 7, 3) := by decide +kernel
theorem dX7_open_163 : decode cX7_open 163 = .ok (.iload_n 3, 1) := by decide +kernel
theorem dX7_open_164 : decode cX7_open 164 = .ok (.iconst 4, 1) := by decide +kernel
theorem dX7_open_165 : decode cX7_open 165 = .ok (.invokestatic 249, 3) := by decide +kernel
theorem dX7_open_168 : decode cX7_open 168 = .ok (.iconst (-1), 1) := by decide +kernel
theorem dX7_open_169 : decode cX7_open 169 = .ok (.iastore, 1) := by decide +kernel
theorem dX7_open_170 : decode cX7_open 170 = .ok (.aload_n 0, 1) := by decide +kernel
theorem dX7_open_171 : decode cX7_open 171 = .ok (.getfield 7, 3) := by decide +kernel
theorem dX7_open_174 : decode cX7_open 174 = .ok (.iload_n 3, 1) := by decide +kernel
theorem dX7_open_175 : decode cX7_open 175 = .ok (.bipush 6, 2) := by decide +kernel
theorem dX7_open_177 : decode cX7_open 177 = .ok (.invokestatic 249, 3) := by decide +kernel
theorem dX7_open_180 : decode cX7_open 180 = .ok (.aload_n 0, 1) := by decide +kernel
theorem dX7_open_181 : decode cX7_open 181 = .ok (.getfield 7, 3) := by decide +kernel
theorem dX7_open_184 : decode cX7_open 184 = .ok (.iconst 0, 1) := by decide +kernel
theorem dX7_open_185 : decode cX7_open 185 = .ok (.iaload, 1) := by decide +kernel
theorem dX7_open_186 : decode cX7_open 186 = .ok (.iastore, 1) := by decide +kernel
theorem dX7_open_187 : decode cX7_open 187 = .ok (.iload_n 3, 1) := by decide +kernel
theorem dX7_open_188 : decode cX7_open 188 = .ok (.ireturn, 1) := by decide +kernel
theorem dX7_send_0 : decode cX7_send 0 = .ok (.aload_n 0, 1) := by decide +kernel
theorem dX7_send_1 : decode cX7_send 1 = .ok (.iload_n 1, 1) := by decide +kernel
theorem dX7_send_2 : decode cX7_send 2 = .ok (.invokevirtual 271, 3) := by decide +kernel
theorem dX7_send_5 : decode cX7_send 5 = .ok (.ifCond .ne 26, 3) := by decide +kernel
theorem dX7_send_8 : decode cX7_send 8 = .ok (.aload_n 0, 1) := by decide +kernel
theorem dX7_send_9 : decode cX7_send 9 = .ok (.aload_n 0, 1) := by decide +kernel
theorem dX7_send_10 : decode cX7_send 10 = .ok (.iload_n 1, 1) := by decide +kernel
theorem dX7_send_11 : decode cX7_send 11 = .ok (.invokevirtual 277, 3) := by decide +kernel
theorem dX7_send_14 : decode cX7_send 14 = .ok (.bipush 24, 2) := by decide +kernel
theorem dX7_send_16 : decode cX7_send 16 = .ok (.if_icmp .ne 7, 3) := by decide +kernel
theorem dX7_send_19 : decode cX7_send 19 = .ok (.iconst 1, 1) := by decide +kernel
theorem dX7_send_20 : decode cX7_send 20 = .ok (.goto 4, 3) := by decide +kernel
theorem dX7_send_23 : decode cX7_send 23 = .ok (.iconst 0, 1) := by decide +kernel
theorem dX7_send_24 : decode cX7_send 24 = .ok (.iconst 2, 1) := by decide +kernel
theorem dX7_send_25 : decode cX7_send 25 = .ok (.invokevirtual 224, 3) := by decide +kernel
theorem dX7_send_28 : decode cX7_send 28 = .ok (.ifCond .eq 5, 3) := by decide +kernel
theorem dX7_send_31 : decode cX7_send 31 = .ok (.iconst 0, 1) := by decide +kernel
theorem dX7_send_32 : decode cX7_send 32 = .ok (.ireturn, 1) := by decide +kernel
theorem dX7_send_33 : decode cX7_send 33 = .ok (.aload_n 0, 1) := by decide +kernel
theorem dX7_send_34 : decode cX7_send 34 = .ok (.invokevirtual 319, 3) := by decide +kernel
theorem dX7_send_37 : decode cX7_send 37 = .ok (.aload_n 0, 1) := by decide +kernel
theorem dX7_send_38 : decode cX7_send 38 = .ok (.getfield 7, 3) := by decide +kernel
theorem dX7_send_41 : decode cX7_send 41 = .ok (.iload_n 1, 1) := by decide +kernel
theorem dX7_send_42 : decode cX7_send 42 = .ok (.bipush 12, 2) := by decide +kernel
theorem dX7_send_44 : decode cX7_send 44 = .ok (.invokestatic 249, 3) := by decide +kernel
theorem dX7_send_47 : decode cX7_send 47 = .ok (.iaload, 1) := by decide +kernel
theorem dX7_send_48 : decode cX7_send 48 = .ok (.aload_n 0, 1) := by decide +kernel
theorem dX7_send_49 : decode cX7_send 49 = .ok (.getfield 13, 3) := by decide +kernel
theorem dX7_send_52 : decode cX7_send 52 = .ok (.iconst 3, 1) := by decide +kernel
theorem dX7_send_53 : decode cX7_send 53 = .ok (.iaload, 1) := by decide +kernel
theorem dX7_send_54 : decode cX7_send 54 = .ok (.if_icmp .ne 8, 3) := by decide +kernel
theorem dX7_send_57 : decode cX7_send 57 = .ok (.aload_n 0, 1) := by decide +kernel
theorem dX7_send_58 : decode cX7_send 58 = .ok (.iload_n 1, 1) := by decide +kernel
theorem dX7_send_59 : decode cX7_send 59 = .ok (.invokevirtual 289, 3) := by decide +kernel
theorem dX7_send_62 : decode cX7_send 62 = .ok (.iload_n 1, 1) := by decide +kernel
theorem dX7_send_63 : decode cX7_send 63 = .ok (.aload_n 0, 1) := by decide +kernel
theorem dX7_send_64 : decode cX7_send 64 = .ok (.iload_n 1, 1) := by decide +kernel
theorem dX7_send_65 : decode cX7_send 65 = .ok (.invokevirtual 277, 3) := by decide +kernel
theorem dX7_send_68 : decode cX7_send 68 = .ok (.invokestatic 280, 3) := by decide +kernel
theorem dX7_send_71 : decode cX7_send 71 = .ok (.istore_n 3, 1) := by decide +kernel
theorem dX7_send_72 : decode cX7_send 72 = .ok (.aload_n 0, 1) := by decide +kernel
theorem dX7_send_73 : decode cX7_send 73 = .ok (.getfield 7, 3) := by decide +kernel
theorem dX7_send_76 : decode cX7_send 76 = .ok (.iload_n 3, 1) := by decide +kernel
theorem dX7_send_77 : decode cX7_send 77 = .ok (.iconst 1, 1) := by decide +kernel
theorem dX7_send_78 : decode cX7_send 78 = .ok (.iadd, 1) := by decide +kernel
theorem dX7_send_79 : decode cX7_send 79 = .ok (.iload_n 2, 1) := by decide +kernel
theorem dX7_send_80 : decode cX7_send 80 = .ok (.iastore, 1) := by decide +kernel
theorem dX7_send_81 : decode cX7_send 81 = .ok (.aload_n 0, 1) := by decide +kernel
theorem dX7_send_82 : decode cX7_send 82 = .ok (.getfield 7, 3) := by decide +kernel
theorem dX7_send_85 : decode cX7_send 85 = .ok (.iload_n 3, 1) := by decide +kernel
theorem dX7_send_86 : decode cX7_send 86 = .ok (.iconst 2, 1) := by decide +kernel
theorem dX7_send_87 : decode cX7_send 87 = .ok (.iadd, 1) := by decide +kernel
theorem dX7_send_88 : decode cX7_send 88 = .ok (.aload_n 0, 1) := by decide +kernel
theorem dX7_send_89 : decode cX7_send 89 = .ok (.getfield 7, 3) := by decide +kernel
theorem dX7_send_92 : decode cX7_send 92 = .ok (.iload_n 1, 1) := by decide +kernel
theorem dX7_send_93 : decode cX7_send 93 = .ok (.bipush 11, 2) := by decide +kernel
theorem dX7_send_95 : decode cX7_send 95 = .ok (.invokestatic 249, 3) := by decide +kernel
theorem dX7_send_98 : decode cX7_send 98 = .ok (.iaload, 1) := by decide +kernel
theorem dX7_send_99 : decode cX7_send 99 = .ok (.iastore, 1) := by decide +kernel
theorem dX7_send_100 : decode cX7_send 100 = .ok (.aload_n 0, 1) := by decide +kernel
theorem dX7_send_101 : decode cX7_send 101 = .ok (.iload_n 1, 1) := by decide +kernel
theorem dX7_send_102 : decode cX7_send 102 = .ok (.iload_n 3, 1) := by decide +kernel
theorem dX7_send_103 : decode cX7_send 103 = .ok (.invokevirtual 292, 3) := by decide +kernel
theorem dX7_send_106 : decode cX7_send 106 = .ok (.aload_n 0, 1) := by decide +kernel
theorem dX7_send_107 : decode cX7_send 107 = .ok (.getfield 7, 3) := by decide +kernel
theorem dX7_send_110 : decode cX7_send 110 = .ok (.iload_n 1, 1) := by decide +kernel
theorem dX7_send_111 : decode cX7_send 111 = .ok (.bipush 12, 2) := by decide +kernel
theorem dX7_send_113 : decode cX7_send 113 = .ok (.invokestatic 249, 3) := by decide +kernel
theorem dX7_send_116 : decode cX7_send 116 = .ok (.dup2, 1) := by decide +kernel
theorem dX7_send_117 : decode cX7_send 117 = .ok (.iaload, 1) := by decide +kernel
theorem dX7_send_118 : decode cX7_send 118 = .ok (.iconst 1, 1) := by decide +kernel
theorem dX7_send_119 : decode cX7_send 119 = .ok (.iadd, 1) := by decide +kernel
theorem dX7_send_120 : decode cX7_send 120 = .ok (.iastore, 1) := by decide +kernel
theorem dX7_send_121 : decode cX7_send 121 = .ok (.aload_n 0, 1) := by decide +kernel
theorem dX7_send_122 : decode cX7_send 122 = .ok (.getfield 7, 3) := by decide +kernel
theorem dX7_send_125 : decode cX7_send 125 = .ok (.iload_n 1, 1) := by decide +kernel
theorem dX7_send_126 : decode cX7_send 126 = .ok (.bipush 7, 2) := by decide +kernel
theorem dX7_send_128 : decode cX7_send 128 = .ok (.invokestatic 249, 3) := by decide +kernel
theorem dX7_send_131 : decode cX7_send 131 = .ok (.dup2, 1) := by decide +kernel
theorem dX7_send_132 : decode cX7_send 132 = .ok (.iaload, 1) := by decide +kernel
theorem dX7_send_133 : decode cX7_send 133 = .ok (.iconst 1, 1) := by decide +kernel
theorem dX7_send_134 : decode cX7_send 134 = .ok (.iadd, 1) := by decide +kernel
theorem dX7_send_135 : decode cX7_send 135 = .ok (.iastore, 1) := by decide +kernel
theorem dX7_send_136 : decode cX7_send 136 = .ok (.aload_n 0, 1) := by decide +kernel
theorem dX7_send_137 : decode cX7_send 137 = .ok (.getfield 7, 3) := by decide +kernel
theorem dX7_send_140 : decode cX7_send 140 = .ok (.iload_n 1, 1) := by decide +kernel
theorem dX7_send_141 : decode cX7_send 141 = .ok (.bipush 7, 2) := by decide +kernel
theorem dX7_send_143 : decode cX7_send 143 = .ok (.invokestatic 249, 3) := by decide +kernel
theorem dX7_send_146 : decode cX7_send 146 = .ok (.iaload, 1) := by decide +kernel
theorem dX7_send_147 : decode cX7_send 147 = .ok (.iconst 1, 1) := by decide +kernel
theorem dX7_send_148 : decode cX7_send 148 = .ok (.isub, 1) := by decide +kernel
theorem dX7_send_149 : decode cX7_send 149 = .ok (.ireturn, 1) := by decide +kernel
theorem dX7_setLink_0 : decode cX7_setLink 0 = .ok (.aload_n 0, 1) := by decide +kernel
theorem dX7_setLink_1 : decode cX7_setLink 1 = .ok (.iload_n 1, 1) := by decide +kernel
theorem dX7_setLink_2 : decode cX7_setLink 2 = .ok (.iload_n 2, 1) := by decide +kernel
theorem dX7_setLink_3 : decode cX7_setLink 3 = .ok (.invokevirtual 246, 3) := by decide +kernel
theorem dX7_setLink_6 : decode cX7_setLink 6 = .ok (.ifCond .ne 40, 3) := by decide +kernel
theorem dX7_setLink_9 : decode cX7_setLink 9 = .ok (.aload_n 0, 1) := by decide +kernel
theorem dX7_setLink_10 : decode cX7_setLink 10 = .ok (.aload_n 0, 1) := by decide +kernel
theorem dX7_setLink_11 : decode cX7_setLink 11 = .ok (.getfield 22, 3) := by decide +kernel
theorem dX7_setLink_14 : decode cX7_setLink 14 = .ok (.bipush 8, 2) := by decide +kernel
theorem dX7_setLink_16 : decode cX7_setLink 16 = .ok (.iload_n 1, 1) := by decide +kernel
theorem dX7_setLink_17 : decode cX7_setLink 17 = .ok (.imul, 1) := by decide +kernel
theorem dX7_setLink_18 : decode cX7_setLink 18 = .ok (.iload_n 2, 1) := by decide +kernel
theorem dX7_setLink_19 : decode cX7_setLink 19 = .ok (.iadd, 1) := by decide +kernel
theorem dX7_setLink_20 : decode cX7_setLink 20 = .ok (.iaload, 1) := by decide +kernel
theorem dX7_setLink_21 : decode cX7_setLink 21 = .ok (.ifCond .eq 13, 3) := by decide +kernel
theorem dX7_setLink_24 : decode cX7_setLink 24 = .ok (.aload_n 0, 1) := by decide +kernel
theorem dX7_setLink_25 : decode cX7_setLink 25 = .ok (.iload_n 1, 1) := by decide +kernel
theorem dX7_setLink_26 : decode cX7_setLink 26 = .ok (.iload_n 2, 1) := by decide +kernel
theorem dX7_setLink_27 : decode cX7_setLink 27 = .ok (.invokevirtual 243, 3) := by decide +kernel
theorem dX7_setLink_30 : decode cX7_setLink 30 = .ok (.iload_n 3, 1) := by decide +kernel
theorem dX7_setLink_31 : decode cX7_setLink 31 = .ok (.if_icmp .ne 7, 3) := by decide +kernel
theorem dX7_setLink_34 : decode cX7_setLink 34 = .ok (.iconst 1, 1) := by decide +kernel
theorem dX7_setLink_35 : decode cX7_setLink 35 = .ok (.goto 4, 3) := by decide +kernel
theorem dX7_setLink_38 : decode cX7_setLink 38 = .ok (.iconst 0, 1) := by decide +kernel
theorem dX7_setLink_39 : decode cX7_setLink 39 = .ok (.iconst 3, 1) := by decide +kernel
theorem dX7_setLink_40 : decode cX7_setLink 40 = .ok (.invokevirtual 224, 3) := by decide +kernel
theorem dX7_setLink_43 : decode cX7_setLink 43 = .ok (.ifCond .eq 5, 3) := by decide +kernel
theorem dX7_setLink_46 : decode cX7_setLink 46 = .ok (.iconst 0, 1) := by decide +kernel
theorem dX7_setLink_47 : decode cX7_setLink 47 = .ok (.ireturn, 1) := by decide +kernel
theorem dX7_setLink_48 : decode cX7_setLink 48 = .ok (.aload_n 0, 1) := by decide +kernel
theorem dX7_setLink_49 : decode cX7_setLink 49 = .ok (.invokevirtual 319, 3) := by decide +kernel
theorem dX7_setLink_52 : decode cX7_setLink 52 = .ok (.aload_n 0, 1) := by decide +kernel
theorem dX7_setLink_53 : decode cX7_setLink 53 = .ok (.getfield 7, 3) := by decide +kernel
theorem dX7_setLink_56 : decode cX7_setLink 56 = .ok (.bipush 9, 2) := by decide +kernel
theorem dX7_setLink_58 : decode cX7_setLink 58 = .ok (.iload_n 1, 1) := by decide +kernel
theorem dX7_setLink_59 : decode cX7_setLink 59 = .ok (.iadd, 1) := by decide +kernel
theorem dX7_setLink_60 : decode cX7_setLink 60 = .ok (.dup2, 1) := by decide +kernel
theorem dX7_setLink_61 : decode cX7_setLink 61 = .ok (.iaload, 1) := by decide +kernel
theorem dX7_setLink_62 : decode cX7_setLink 62 = .ok (.iconst 1, 1) := by decide +kernel
theorem dX7_setLink_63 : decode cX7_setLink 63 = .ok (.iload_n 2, 1) := by decide +kernel
theorem dX7_setLink_64 : decode cX7_setLink 64 = .ok (.ishl, 1) := by decide +kernel
theorem dX7_setLink_65 : decode cX7_setLink 65 = .ok (.ixor, 1) := by decide +kernel
theorem dX7_setLink_66 : decode cX7_setLink 66 = .ok (.iastore, 1) := by decide +kernel
theorem dX7_setLink_67 : decode cX7_setLink 67 = .ok (.aload_n 0, 1) := by decide +kernel
theorem dX7_setLink_68 : decode cX7_setLink 68 = .ok (.getfield 7, 3) := by decide +kernel
theorem dX7_setLink_71 : decode cX7_setLink 71 = .ok (.bipush 9, 2) := by decide +kernel
theorem dX7_setLink_73 : decode cX7_setLink 73 = .ok (.iload_n 2, 1) := by decide +kernel
theorem dX7_setLink_74 : decode cX7_setLink 74 = .ok (.iadd, 1) := by decide +kernel
theorem dX7_setLink_75 : decode cX7_setLink 75 = .ok (.dup2, 1) := by decide +kernel
theorem dX7_setLink_76 : decode cX7_setLink 76 = .ok (.iaload, 1) := by decide +kernel
theorem dX7_setLink_77 : decode cX7_setLink 77 = .ok (.iconst 1, 1) := by decide +kernel
theorem dX7_setLink_78 : decode cX7_setLink 78 = .ok (.iload_n 1, 1) := by decide +kernel
theorem dX7_setLink_79 : decode cX7_setLink 79 = .ok (.ishl, 1) := by decide +kernel
theorem dX7_setLink_80 : decode cX7_setLink 80 = .ok (.ixor, 1) := by decide +kernel
theorem dX7_setLink_81 : decode cX7_setLink 81 = .ok (.iastore, 1) := by decide +kernel
theorem dX7_setLink_82 : decode cX7_setLink 82 = .ok (.iconst 0, 1) := by decide +kernel
theorem dX7_setLink_83 : decode cX7_setLink 83 = .ok (.istore 4, 2) := by decide +kernel
theorem dX7_setLink_85 : decode cX7_setLink 85 = .ok (.iconst 0, 1) := by decide +kernel
theorem dX7_setLink_86 : decode cX7_setLink 86 = .ok (.istore 5, 2) := by decide +kernel
theorem dX7_setLink_88 : decode cX7_setLink 88 = .ok (.iload 5, 2) := by decide +kernel
theorem dX7_setLink_90 : decode cX7_setLink 90 = .ok (.bipush 6, 2) := by decide +kernel
theorem dX7_setLink_92 : decode cX7_setLink 92 = .ok (.if_icmp .ge 39, 3) := by decide +kernel
theorem dX7_setLink_95 : decode cX7_setLink 95 = .ok (.iload_n 3, 1) := by decide +kernel
theorem dX7_setLink_96 : decode cX7_setLink 96 = .ok (.ifCond .ne 35, 3) := by decide +kernel
theorem dX7_setLink_99 : decode cX7_setLink 99 = .ok (.iload 4, 2) := by decide +kernel
theorem dX7_setLink_101 : decode cX7_setLink 101 = .ok (.aload_n 0, 1) := by decide +kernel
theorem dX7_setLink_102 : decode cX7_setLink 102 = .ok (.iload 5, 2) := by decide +kernel
theorem dX7_setLink_104 : decode cX7_setLink 104 = .ok (.invokevirtual 253, 3) := by decide +kernel
theorem dX7_setLink_107 : decode cX7_setLink 107 = .ok (.ifCond .eq 14, 3) := by decide +kernel
theorem dX7_setLink_110 : decode cX7_setLink 110 = .ok (.aload_n 0, 1) := by decide +kernel
theorem dX7_setLink_111 : decode cX7_setLink 111 = .ok (.iload 5, 2) := by decide +kernel
theorem dX7_setLink_113 : decode cX7_setLink 113 = .ok (.iload_n 1, 1) := by decide +kernel
theorem dX7_setLink_114 : decode cX7_setLink 114 = .ok (.iload_n 2, 1) := by decide +kernel
theorem dX7_setLink_115 : decode cX7_setLink 115 = .ok (.invokevirtual 325, 3) := by decide +kernel
theorem dX7_setLink_118 : decode cX7_setLink 118 = .ok (.goto 4, 3) := by decide +kernel
theorem dX7_setLink_121 : decode cX7_setLink 121 = .ok (.iconst 0, 1) := by decide +kernel
theorem dX7_setLink_122 : decode cX7_setLink 122 = .ok (.iadd, 1) := by decide +kernel
theorem dX7_setLink_123 : decode cX7_setLink 123 = .ok (.istore 4, 2) := by decide +kernel
theorem dX7_setLink_125 : decode cX7_setLink 125 = .ok (.iinc 5 1, 3) := by decide +kernel
theorem dX7_setLink_128 : decode cX7_setLink 128 = .ok (.goto (-40), 3) := by decide +kernel
theorem dX7_setLink_131 : decode cX7_setLink 131 = .ok (.iload 4, 2) := by decide +kernel
theorem dX7_setLink_133 : decode cX7_setLink 133 = .ok (.ireturn, 1) := by decide +kernel
theorem dX7_close_0 : decode cX7_close 0 = .ok (.aload_n 0, 1) := by decide +kernel
theorem dX7_close_1 : decode cX7_close 1 = .ok (.iload_n 1, 1) := by decide +kernel
theorem dX7_close_2 : decode cX7_close 2 = .ok (.invokevirtual 271, 3) := by decide +kernel
theorem dX7_close_5 : decode cX7_close 5 = .ok (.ifCond .ne 24, 3) := by decide +kernel
theorem dX7_close_8 : decode cX7_close 8 = .ok (.aload_n 0, 1) := by decide +kernel
theorem dX7_close_9 : decode cX7_close 9 = .ok (.aload_n 0, 1) := by decide +kernel
theorem dX7_close_10 : decode cX7_close 10 = .ok (.iload_n 1, 1) := by decide +kernel
theorem dX7_close_11 : decode cX7_close 11 = .ok (.invokevirtual 277, 3) := by decide +kernel
theorem dX7_close_14 : decode cX7_close 14 = .ok (.ifCond .le 7, 3) := by decide +kernel
theorem dX7_close_17 : decode cX7_close 17 = .ok (.iconst 1, 1) := by decide +kernel
theorem dX7_close_18 : decode cX7_close 18 = .ok (.goto 4, 3) := by decide +kernel
theorem dX7_close_21 : decode cX7_close 21 = .ok (.iconst 0, 1) := by decide +kernel
theorem dX7_close_22 : decode cX7_close 22 = .ok (.iconst 2, 1) := by decide +kernel
theorem dX7_close_23 : decode cX7_close 23 = .ok (.invokevirtual 224, 3) := by decide +kernel
theorem dX7_close_26 : decode cX7_close 26 = .ok (.ifCond .eq 5, 3) := by decide +kernel
theorem dX7_close_29 : decode cX7_close 29 = .ok (.iconst 0, 1) := by decide +kernel
theorem dX7_close_30 : decode cX7_close 30 = .ok (.ireturn, 1) := by decide +kernel
theorem dX7_close_31 : decode cX7_close 31 = .ok (.aload_n 0, 1) := by decide +kernel
theorem dX7_close_32 : decode cX7_close 32 = .ok (.invokevirtual 319, 3) := by decide +kernel
theorem dX7_close_35 : decode cX7_close 35 = .ok (.aload_n 0, 1) := by decide +kernel
theorem dX7_close_36 : decode cX7_close 36 = .ok (.getfield 7, 3) := by decide +kernel
theorem dX7_close_39 : decode cX7_close 39 = .ok (.iload_n 1, 1) := by decide +kernel
theorem dX7_close_40 : decode cX7_close 40 = .ok (.iconst 0, 1) := by decide +kernel
theorem dX7_close_41 : decode cX7_close 41 = .ok (.invokestatic 249, 3) := by decide +kernel
theorem dX7_close_44 : decode cX7_close 44 = .ok (.iconst 0, 1) := by decide +kernel
theorem dX7_close_45 : decode cX7_close 45 = .ok (.iastore, 1) := by decide +kernel
theorem dX7_close_46 : decode cX7_close 46 = .ok (.aload_n 0, 1) := by decide +kernel
theorem dX7_close_47 : decode cX7_close 47 = .ok (.getfield 7, 3) := by decide +kernel
theorem dX7_close_50 : decode cX7_close 50 = .ok (.iload_n 1, 1) := by decide +kernel
theorem dX7_close_51 : decode cX7_close 51 = .ok (.bipush 7, 2) := by decide +kernel
theorem dX7_close_53 : decode cX7_close 53 = .ok (.invokestatic 249, 3) := by decide +kernel
theorem dX7_close_56 : decode cX7_close 56 = .ok (.iaload, 1) := by decide +kernel
theorem dX7_close_57 : decode cX7_close 57 = .ok (.ireturn, 1) := by decide +kernel
theorem dX7_copies_0 : decode cX7_copies 0 = .ok (.iconst 0, 1) := by decide +kernel
theorem dX7_copies_1 : decode cX7_copies 1 = .ok (.istore 5, 2) := by decide +kernel
theorem dX7_copies_3 : decode cX7_copies 3 = .ok (.iload 5, 2) := by decide +kernel
theorem dX7_copies_5 : decode cX7_copies 5 = .ok (.iload 4, 2) := by decide +kernel
theorem dX7_copies_7 : decode cX7_copies 7 = .ok (.if_icmp .ge 21, 3) := by decide +kernel
theorem dX7_copies_10 : decode cX7_copies 10 = .ok (.aload_n 2, 1) := by decide +kernel
theorem dX7_copies_11 : decode cX7_copies 11 = .ok (.iload_n 3, 1) := by decide +kernel
theorem dX7_copies_12 : decode cX7_copies 12 = .ok (.iload 5, 2) := by decide +kernel
theorem dX7_copies_14 : decode cX7_copies 14 = .ok (.iadd, 1) := by decide +kernel
theorem dX7_copies_15 : decode cX7_copies 15 = .ok (.aload_n 0, 1) := by decide +kernel
theorem dX7_copies_16 : decode cX7_copies 16 = .ok (.iload_n 1, 1) := by decide +kernel
theorem dX7_copies_17 : decode cX7_copies 17 = .ok (.iload 5, 2) := by decide +kernel
theorem dX7_copies_19 : decode cX7_copies 19 = .ok (.iadd, 1) := by decide +kernel
theorem dX7_copies_20 : decode cX7_copies 20 = .ok (.iaload, 1) := by decide +kernel
theorem dX7_copies_21 : decode cX7_copies 21 = .ok (.iastore, 1) := by decide +kernel
theorem dX7_copies_22 : decode cX7_copies 22 = .ok (.iinc 5 1, 3) := by decide +kernel
theorem dX7_copies_25 : decode cX7_copies 25 = .ok (.goto (-22), 3) := by decide +kernel
theorem dX7_copies_28 : decode cX7_copies 28 = .ok (.return_, 1) := by decide +kernel
theorem dX7_keeps_0 : decode cX7_keeps 0 = .ok (.aload_n 0, 1) := by decide +kernel
theorem dX7_keeps_1 : decode cX7_keeps 1 = .ok (.getfield 231, 3) := by decide +kernel
theorem dX7_keeps_4 : decode cX7_keeps 4 = .ok (.bipush 10, 2) := by decide +kernel
theorem dX7_keeps_6 : decode cX7_keeps 6 = .ok (.if_icmp .ne 36, 3) := by decide +kernel
theorem dX7_keeps_9 : decode cX7_keeps 9 = .ok (.aload_n 0, 1) := by decide +kernel
theorem dX7_keeps_10 : decode cX7_keeps 10 = .ok (.dup, 1) := by decide +kernel
theorem dX7_keeps_11 : decode cX7_keeps 11 = .ok (.getfield 231, 3) := by decide +kernel
theorem dX7_keeps_14 : decode cX7_keeps 14 = .ok (.iconst 1, 1) := by decide +kernel
theorem dX7_keeps_15 : decode cX7_keeps 15 = .ok (.isub, 1) := by decide +kernel
theorem dX7_keeps_16 : decode cX7_keeps 16 = .ok (.putfield 231, 3) := by decide +kernel
theorem dX7_keeps_19 : decode cX7_keeps 19 = .ok (.aload_n 0, 1) := by decide +kernel
theorem dX7_keeps_20 : decode cX7_keeps 20 = .ok (.getfield 51, 3) := by decide +kernel
theorem dX7_keeps_23 : decode cX7_keeps 23 = .ok (.sipush 821, 3) := by decide +kernel
theorem dX7_keeps_26 : decode cX7_keeps 26 = .ok (.aload_n 0, 1) := by decide +kernel
theorem dX7_keeps_27 : decode cX7_keeps 27 = .ok (.getfield 51, 3) := by decide +kernel
theorem dX7_keeps_30 : decode cX7_keeps 30 = .ok (.iconst 0, 1) := by decide +kernel
theorem dX7_keeps_31 : decode cX7_keeps 31 = .ok (.sipush 821, 3) := by decide +kernel
theorem dX7_keeps_34 : decode cX7_keeps 34 = .ok (.aload_n 0, 1) := by decide +kernel
theorem dX7_keeps_35 : decode cX7_keeps 35 = .ok (.getfield 231, 3) := by decide +kernel
theorem dX7_keeps_38 : decode cX7_keeps 38 = .ok (.imul, 1) := by decide +kernel
theorem dX7_keeps_39 : decode cX7_keeps 39 = .ok (.invokestatic 312, 3) := by decide +kernel
theorem dX7_keeps_42 : decode cX7_keeps 42 = .ok (.aload_n 0, 1) := by decide +kernel
theorem dX7_keeps_43 : decode cX7_keeps 43 = .ok (.getfield 7, 3) := by decide +kernel
theorem dX7_keeps_46 : decode cX7_keeps 46 = .ok (.iconst 0, 1) := by decide +kernel
theorem dX7_keeps_47 : decode cX7_keeps 47 = .ok (.aload_n 0, 1) := by decide +kernel
theorem dX7_keeps_48 : decode cX7_keeps 48 = .ok (.getfield 51, 3) := by decide +kernel
theorem dX7_keeps_51 : decode cX7_keeps 51 = .ok (.sipush 821, 3) := by decide +kernel
theorem dX7_keeps_54 : decode cX7_keeps 54 = .ok (.aload_n 0, 1) := by decide +kernel
theorem dX7_keeps_55 : decode cX7_keeps 55 = .ok (.getfield 231, 3) := by decide +kernel
theorem dX7_keeps_58 : decode cX7_keeps 58 = .ok (.imul, 1) := by decide +kernel
theorem dX7_keeps_59 : decode cX7_keeps 59 = .ok (.sipush 821, 3) := by decide +kernel
theorem dX7_keeps_62 : decode cX7_keeps 62 = .ok (.invokestatic 312, 3) := by decide +kernel
theorem dX7_keeps_65 : decode cX7_keeps 65 = .ok (.aload_n 0, 1) := by decide +kernel
theorem dX7_keeps_66 : decode cX7_keeps 66 = .ok (.dup, 1) := by decide +kernel
theorem dX7_keeps_67 : decode cX7_keeps 67 = .ok (.getfield 231, 3) := by decide +kernel
theorem dX7_keeps_70 : decode cX7_keeps 70 = .ok (.iconst 1, 1) := by decide +kernel
theorem dX7_keeps_71 : decode cX7_keeps 71 = .ok (.iadd, 1) := by decide +kernel
theorem dX7_keeps_72 : decode cX7_keeps 72 = .ok (.putfield 231, 3) := by decide +kernel
theorem dX7_keeps_75 : decode cX7_keeps 75 = .ok (.return_, 1) := by decide +kernel
theorem dX7_undo_0 : decode cX7_undo 0 = .ok (.aload_n 0, 1) := by decide +kernel
theorem dX7_undo_1 : decode cX7_undo 1 = .ok (.iconst 0, 1) := by decide +kernel
theorem dX7_undo_2 : decode cX7_undo 2 = .ok (.putfield 70, 3) := by decide +kernel
theorem dX7_undo_5 : decode cX7_undo 5 = .ok (.aload_n 0, 1) := by decide +kernel
theorem dX7_undo_6 : decode cX7_undo 6 = .ok (.getfield 231, 3) := by decide +kernel
theorem dX7_undo_9 : decode cX7_undo 9 = .ok (.ifCond .ne 5, 3) := by decide +kernel
theorem dX7_undo_12 : decode cX7_undo 12 = .ok (.iconst (-1), 1) := by decide +kernel
theorem dX7_undo_13 : decode cX7_undo 13 = .ok (.ireturn, 1) := by decide +kernel
theorem dX7_undo_14 : decode cX7_undo 14 = .ok (.aload_n 0, 1) := by decide +kernel
theorem dX7_undo_15 : decode cX7_undo 15 = .ok (.dup, 1) := by decide +kernel
theorem dX7_undo_16 : decode cX7_undo 16 = .ok (.getfield 231, 3) := by decide +kernel
theorem dX7_undo_19 : decode cX7_undo 19 = .ok (.iconst 1, 1) := by decide +kernel
theorem dX7_undo_20 : decode cX7_undo 20 = .ok (.isub, 1) := by decide +kernel
theorem dX7_undo_21 : decode cX7_undo 21 = .ok (.putfield 231, 3) := by decide +kernel
theorem dX7_undo_24 : decode cX7_undo 24 = .ok (.aload_n 0, 1) := by decide +kernel
theorem dX7_undo_25 : decode cX7_undo 25 = .ok (.getfield 51, 3) := by decide +kernel
theorem dX7_undo_28 : decode cX7_undo 28 = .ok (.sipush 821, 3) := by decide +kernel
theorem dX7_undo_31 : decode cX7_undo 31 = .ok (.aload_n 0, 1) := by decide +kernel
theorem dX7_undo_32 : decode cX7_undo 32 = .ok (.getfield 231, 3) := by decide +kernel
theorem dX7_undo_35 : decode cX7_undo 35 = .ok (.imul, 1) := by decide +kernel
theorem dX7_undo_36 : decode cX7_undo 36 = .ok (.aload_n 0, 1) := by decide +kernel
theorem dX7_undo_37 : decode cX7_undo 37 = .ok (.getfield 7, 3) := by decide +kernel
theorem dX7_undo_40 : decode cX7_undo 40 = .ok (.iconst 0, 1) := by decide +kernel
theorem dX7_undo_41 : decode cX7_undo 41 = .ok (.sipush 821, 3) := by decide +kernel
theorem dX7_undo_44 : decode cX7_undo 44 = .ok (.invokestatic 312, 3) := by decide +kernel
theorem dX7_undo_47 : decode cX7_undo 47 = .ok (.aload_n 0, 1) := by decide +kernel
theorem dX7_undo_48 : decode cX7_undo 48 = .ok (.getfield 231, 3) := by decide +kernel
theorem dX7_undo_51 : decode cX7_undo 51 = .ok (.ireturn, 1) := by decide +kernel
theorem dX7_noSlot_0 : decode cX7_noSlot 0 = .ok (.aload_n 0, 1) := by decide +kernel
theorem dX7_noSlot_1 : decode cX7_noSlot 1 = .ok (.iconst 0, 1) := by decide +kernel
theorem dX7_noSlot_2 : decode cX7_noSlot 2 = .ok (.putfield 70, 3) := by decide +kernel
theorem dX7_noSlot_5 : decode cX7_noSlot 5 = .ok (.aload_n 0, 1) := by decide +kernel
theorem dX7_noSlot_6 : decode cX7_noSlot 6 = .ok (.iload_n 1, 1) := by decide +kernel
theorem dX7_noSlot_7 : decode cX7_noSlot 7 = .ok (.iconst 2, 1) := by decide +kernel
theorem dX7_noSlot_8 : decode cX7_noSlot 8 = .ok (.invokevirtual 234, 3) := by decide +kernel
theorem dX7_noSlot_11 : decode cX7_noSlot 11 = .ok (.ireturn, 1) := by decide +kernel
theorem dX7_saveSnapshot_0 : decode cX7_saveSnapshot 0 = .ok (.aload_n 0, 1) := by decide +kernel
theorem dX7_saveSnapshot_1 : decode cX7_saveSnapshot 1 = .ok (.iload_n 1, 1) := by decide +kernel
theorem dX7_saveSnapshot_2 : decode cX7_saveSnapshot 2 = .ok (.invokevirtual 328, 3) := by decide +kernel
theorem dX7_saveSnapshot_5 : decode cX7_saveSnapshot 5 = .ok (.ifCond .eq 5, 3) := by decide +kernel
theorem dX7_saveSnapshot_8 : decode cX7_saveSnapshot 8 = .ok (.iconst 0, 1) := by decide +kernel
theorem dX7_saveSnapshot_9 : decode cX7_saveSnapshot 9 = .ok (.ireturn, 1) := by decide +kernel
theorem dX7_saveSnapshot_10 : decode cX7_saveSnapshot 10 = .ok (.aload_n 0, 1) := by decide +kernel
theorem dX7_saveSnapshot_11 : decode cX7_saveSnapshot 11 = .ok (.getfield 57, 3) := by decide +kernel
theorem dX7_saveSnapshot_14 : decode cX7_saveSnapshot 14 = .ok (.iload_n 1, 1) := by decide +kernel
theorem dX7_saveSnapshot_15 : decode cX7_saveSnapshot 15 = .ok (.baload, 1) := by decide +kernel
theorem dX7_saveSnapshot_16 : decode cX7_saveSnapshot 16 = .ok (.istore_n 2, 1) := by decide +kernel
theorem dX7_saveSnapshot_17 : decode cX7_saveSnapshot 17 = .ok (.aload_n 0, 1) := by decide +kernel
theorem dX7_saveSnapshot_18 : decode cX7_saveSnapshot 18 = .ok (.getfield 7, 3) := by decide +kernel
theorem dX7_saveSnapshot_21 : decode cX7_saveSnapshot 21 = .ok (.iconst 0, 1) := by decide +kernel
theorem dX7_saveSnapshot_22 : decode cX7_saveSnapshot 22 = .ok (.aload_n 0, 1) := by decide +kernel
theorem dX7_saveSnapshot_23 : decode cX7_saveSnapshot 23 = .ok (.getfield 54, 3) := by decide +kernel
theorem dX7_saveSnapshot_26 : decode cX7_saveSnapshot 26 = .ok (.sipush 821, 3) := by decide +kernel
theorem dX7_saveSnapshot_29 : decode cX7_saveSnapshot 29 = .ok (.iload_n 1, 1) := by decide +kernel
theorem dX7_saveSnapshot_30 : decode cX7_saveSnapshot 30 = .ok (.imul, 1) := by decide +kernel
theorem dX7_saveSnapshot_31 : decode cX7_saveSnapshot 31 = .ok (.sipush 821, 3) := by decide +kernel
theorem dX7_saveSnapshot_34 : decode cX7_saveSnapshot 34 = .ok (.invokestatic 312, 3) := by decide +kernel
theorem dX7_saveSnapshot_37 : decode cX7_saveSnapshot 37 = .ok (.aload_n 0, 1) := by decide +kernel
theorem dX7_saveSnapshot_38 : decode cX7_saveSnapshot 38 = .ok (.getfield 57, 3) := by decide +kernel
theorem dX7_saveSnapshot_41 : decode cX7_saveSnapshot 41 = .ok (.iload_n 1, 1) := by decide +kernel
theorem dX7_saveSnapshot_42 : decode cX7_saveSnapshot 42 = .ok (.iconst 1, 1) := by decide +kernel
theorem dX7_saveSnapshot_43 : decode cX7_saveSnapshot 43 = .ok (.bastore, 1) := by decide +kernel
theorem dX7_saveSnapshot_44 : decode cX7_saveSnapshot 44 = .ok (.iload_n 2, 1) := by decide +kernel
theorem dX7_saveSnapshot_45 : decode cX7_saveSnapshot 45 = .ok (.ireturn, 1) := by decide +kernel
theorem dX7_restoreSnapshot_0 : decode cX7_restoreSnapshot 0 = .ok (.aload_n 0, 1) := by decide +kernel
theorem dX7_restoreSnapshot_1 : decode cX7_restoreSnapshot 1 = .ok (.iload_n 1, 1) := by decide +kernel
theorem dX7_restoreSnapshot_2 : decode cX7_restoreSnapshot 2 = .ok (.invokevirtual 328, 3) := by decide +kernel
theorem dX7_restoreSnapshot_5 : decode cX7_restoreSnapshot 5 = .ok (.ifCond .ne 25, 3) := by decide +kernel
theorem dX7_restoreSnapshot_8 : decode cX7_restoreSnapshot 8 = .ok (.aload_n 0, 1) := by decide +kernel
theorem dX7_restoreSnapshot_9 : decode cX7_restoreSnapshot 9 = .ok (.aload_n 0, 1) := by decide +kernel
theorem dX7_restoreSnapshot_10 : decode cX7_restoreSnapshot 10 = .ok (.getfield 57, 3) := by decide +kernel
theorem dX7_restoreSnapshot_13 : decode cX7_restoreSnapshot 13 = .ok (.iload_n 1, 1) := by decide +kernel
theorem dX7_restoreSnapshot_14 : decode cX7_restoreSnapshot 14 = .ok (.baload, 1) := by decide +kernel
theorem dX7_restoreSnapshot_15 : decode cX7_restoreSnapshot 15 = .ok (.ifCond .ne 7, 3) := by decide +kernel
theorem dX7_restoreSnapshot_18 : decode cX7_restoreSnapshot 18 = .ok (.iconst 1, 1) := by decide +kernel
theorem dX7_restoreSnapshot_19 : decode cX7_restoreSnapshot 19 = .ok (.goto 4, 3) := by decide +kernel
theorem dX7_restoreSnapshot_22 : decode cX7_restoreSnapshot 22 = .ok (.iconst 0, 1) := by decide +kernel
theorem dX7_restoreSnapshot_23 : decode cX7_restoreSnapshot 23 = .ok (.iconst 2, 1) := by decide +kernel
theorem dX7_restoreSnapshot_24 : decode cX7_restoreSnapshot 24 = .ok (.invokevirtual 224, 3) := by decide +kernel
theorem dX7_restoreSnapshot_27 : decode cX7_restoreSnapshot 27 = .ok (.ifCond .eq 5, 3) := by decide +kernel
theorem dX7_restoreSnapshot_30 : decode cX7_restoreSnapshot 30 = .ok (.iconst 0, 1) := by decide +kernel
theorem dX7_restoreSnapshot_31 : decode cX7_restoreSnapshot 31 = .ok (.ireturn, 1) := by decide +kernel
theorem dX7_restoreSnapshot_32 : decode cX7_restoreSnapshot 32 = .ok (.aload_n 0, 1) := by decide +kernel
theorem dX7_restoreSnapshot_33 : decode cX7_restoreSnapshot 33 = .ok (.getfield 54, 3) := by decide +kernel
theorem dX7_restoreSnapshot_36 : decode cX7_restoreSnapshot 36 = .ok (.sipush 821, 3) := by decide +kernel
theorem dX7_restoreSnapshot_39 : decode cX7_restoreSnapshot 39 = .ok (.iload_n 1, 1) := by decide +kernel
theorem dX7_restoreSnapshot_40 : decode cX7_restoreSnapshot 40 = .ok (.imul, 1) := by decide +kernel
theorem dX7_restoreSnapshot_41 : decode cX7_restoreSnapshot 41 = .ok (.aload_n 0, 1) := by decide +kernel
theorem dX7_restoreSnapshot_42 : decode cX7_restoreSnapshot 42 = .ok (.getfield 7, 3) := by decide +kernel
theorem dX7_restoreSnapshot_45 : decode cX7_restoreSnapshot 45 = .ok (.iconst 0, 1) := by decide +kernel
theorem dX7_restoreSnapshot_46 : decode cX7_restoreSnapshot 46 = .ok (.sipush 821, 3) := by decide +kernel
theorem dX7_restoreSnapshot_49 : decode cX7_restoreSnapshot 49 = .ok (.invokestatic 312, 3) := by decide +kernel
theorem dX7_restoreSnapshot_52 : decode cX7_restoreSnapshot 52 = .ok (.aload_n 0, 1) := by decide +kernel
theorem dX7_restoreSnapshot_53 : decode cX7_restoreSnapshot 53 = .ok (.iconst 0, 1) := by decide +kernel
theorem dX7_restoreSnapshot_54 : decode cX7_restoreSnapshot 54 = .ok (.putfield 231, 3) := by decide +kernel
theorem dX7_restoreSnapshot_57 : decode cX7_restoreSnapshot 57 = .ok (.aload_n 0, 1) := by decide +kernel
theorem dX7_restoreSnapshot_58 : decode cX7_restoreSnapshot 58 = .ok (.getfield 7, 3) := by decide +kernel
theorem dX7_restoreSnapshot_61 : decode cX7_restoreSnapshot 61 = .ok (.iconst 0, 1) := by decide +kernel
theorem dX7_restoreSnapshot_62 : decode cX7_restoreSnapshot 62 = .ok (.iaload, 1) := by decide +kernel
theorem dX7_restoreSnapshot_63 : decode cX7_restoreSnapshot 63 = .ok (.ireturn, 1) := by decide +kernel
theorem dJ6_bitCount_0f7a4_0 : decode cJ6_bitCount_0f7a4 0 = .ok (.iload_n 0, 1) := by decide +kernel
theorem dJ6_bitCount_0f7a4_1 : decode cJ6_bitCount_0f7a4 1 = .ok (.iload_n 0, 1) := by decide +kernel
theorem dJ6_bitCount_0f7a4_2 : decode cJ6_bitCount_0f7a4 2 = .ok (.iconst 1, 1) := by decide +kernel
theorem dJ6_bitCount_0f7a4_3 : decode cJ6_bitCount_0f7a4 3 = .ok (.iushr, 1) := by decide +kernel
theorem dJ6_bitCount_0f7a4_4 : decode cJ6_bitCount_0f7a4 4 = .ok (.ldc_w 265, 3) := by decide +kernel
theorem dJ6_bitCount_0f7a4_7 : decode cJ6_bitCount_0f7a4 7 = .ok (.iand, 1) := by decide +kernel
theorem dJ6_bitCount_0f7a4_8 : decode cJ6_bitCount_0f7a4 8 = .ok (.isub, 1) := by decide +kernel
theorem dJ6_bitCount_0f7a4_9 : decode cJ6_bitCount_0f7a4 9 = .ok (.istore_n 0, 1) := by decide +kernel
theorem dJ6_bitCount_0f7a4_10 : decode cJ6_bitCount_0f7a4 10 = .ok (.iload_n 0, 1) := by decide +kernel
theorem dJ6_bitCount_0f7a4_11 : decode cJ6_bitCount_0f7a4 11 = .ok (.ldc_w 266, 3) := by decide +kernel
theorem dJ6_bitCount_0f7a4_14 : decode cJ6_bitCount_0f7a4 14 = .ok (.iand, 1) := by decide +kernel
theorem dJ6_bitCount_0f7a4_15 : decode cJ6_bitCount_0f7a4 15 = .ok (.iload_n 0, 1) := by decide +kernel
theorem dJ6_bitCount_0f7a4_16 : decode cJ6_bitCount_0f7a4 16 = .ok (.iconst 2, 1) := by decide +kernel
theorem dJ6_bitCount_0f7a4_17 : decode cJ6_bitCount_0f7a4 17 = .ok (.iushr, 1) := by decide +kernel
theorem dJ6_bitCount_0f7a4_18 : decode cJ6_bitCount_0f7a4 18 = .ok (.ldc_w 266, 3) := by decide +kernel
theorem dJ6_bitCount_0f7a4_21 : decode cJ6_bitCount_0f7a4 21 = .ok (.iand, 1) := by decide +kernel
theorem dJ6_bitCount_0f7a4_22 : decode cJ6_bitCount_0f7a4 22 = .ok (.iadd, 1) := by decide +kernel
theorem dJ6_bitCount_0f7a4_23 : decode cJ6_bitCount_0f7a4 23 = .ok (.istore_n 0, 1) := by decide +kernel
theorem dJ6_bitCount_0f7a4_24 : decode cJ6_bitCount_0f7a4 24 = .ok (.iload_n 0, 1) := by decide +kernel
theorem dJ6_bitCount_0f7a4_25 : decode cJ6_bitCount_0f7a4 25 = .ok (.iload_n 0, 1) := by decide +kernel
theorem dJ6_bitCount_0f7a4_26 : decode cJ6_bitCount_0f7a4 26 = .ok (.iconst 4, 1) := by decide +kernel
theorem dJ6_bitCount_0f7a4_27 : decode cJ6_bitCount_0f7a4 27 = .ok (.iushr, 1) := by decide +kernel
theorem dJ6_bitCount_0f7a4_28 : decode cJ6_bitCount_0f7a4 28 = .ok (.iadd, 1) := by decide +kernel
theorem dJ6_bitCount_0f7a4_29 : decode cJ6_bitCount_0f7a4 29 = .ok (.ldc_w 267, 3) := by decide +kernel
theorem dJ6_bitCount_0f7a4_32 : decode cJ6_bitCount_0f7a4 32 = .ok (.iand, 1) := by decide +kernel
theorem dJ6_bitCount_0f7a4_33 : decode cJ6_bitCount_0f7a4 33 = .ok (.istore_n 0, 1) := by decide +kernel
theorem dJ6_bitCount_0f7a4_34 : decode cJ6_bitCount_0f7a4 34 = .ok (.iload_n 0, 1) := by decide +kernel
theorem dJ6_bitCount_0f7a4_35 : decode cJ6_bitCount_0f7a4 35 = .ok (.iload_n 0, 1) := by decide +kernel
theorem dJ6_bitCount_0f7a4_36 : decode cJ6_bitCount_0f7a4 36 = .ok (.bipush 8, 2) := by decide +kernel
theorem dJ6_bitCount_0f7a4_38 : decode cJ6_bitCount_0f7a4 38 = .ok (.iushr, 1) := by decide +kernel
theorem dJ6_bitCount_0f7a4_39 : decode cJ6_bitCount_0f7a4 39 = .ok (.iadd, 1) := by decide +kernel
theorem dJ6_bitCount_0f7a4_40 : decode cJ6_bitCount_0f7a4 40 = .ok (.istore_n 0, 1) := by decide +kernel
theorem dJ6_bitCount_0f7a4_41 : decode cJ6_bitCount_0f7a4 41 = .ok (.iload_n 0, 1) := by decide +kernel
theorem dJ6_bitCount_0f7a4_42 : decode cJ6_bitCount_0f7a4 42 = .ok (.iload_n 0, 1) := by decide +kernel
theorem dJ6_bitCount_0f7a4_43 : decode cJ6_bitCount_0f7a4 43 = .ok (.bipush 16, 2) := by decide +kernel
theorem dJ6_bitCount_0f7a4_45 : decode cJ6_bitCount_0f7a4 45 = .ok (.iushr, 1) := by decide +kernel
theorem dJ6_bitCount_0f7a4_46 : decode cJ6_bitCount_0f7a4 46 = .ok (.iadd, 1) := by decide +kernel
theorem dJ6_bitCount_0f7a4_47 : decode cJ6_bitCount_0f7a4 47 = .ok (.istore_n 0, 1) := by decide +kernel
theorem dJ6_bitCount_0f7a4_48 : decode cJ6_bitCount_0f7a4 48 = .ok (.iload_n 0, 1) := by decide +kernel
theorem dJ6_bitCount_0f7a4_49 : decode cJ6_bitCount_0f7a4 49 = .ok (.bipush 63, 2) := by decide +kernel
theorem dJ6_bitCount_0f7a4_51 : decode cJ6_bitCount_0f7a4 51 = .ok (.iand, 1) := by decide +kernel
theorem dJ6_bitCount_0f7a4_52 : decode cJ6_bitCount_0f7a4 52 = .ok (.ireturn, 1) := by decide +kernel
theorem dJ9_floorMod_7cf53_0 : decode cJ9_floorMod_7cf53 0 = .ok (.iload_n 0, 1) := by decide +kernel
theorem dJ9_floorMod_7cf53_1 : decode cJ9_floorMod_7cf53 1 = .ok (.iload_n 1, 1) := by decide +kernel
theorem dJ9_floorMod_7cf53_2 : decode cJ9_floorMod_7cf53 2 = .ok (.irem, 1) := by decide +kernel
theorem dJ9_floorMod_7cf53_3 : decode cJ9_floorMod_7cf53 3 = .ok (.istore_n 2, 1) := by decide +kernel
theorem dJ9_floorMod_7cf53_4 : decode cJ9_floorMod_7cf53 4 = .ok (.iload_n 0, 1) := by decide +kernel
theorem dJ9_floorMod_7cf53_5 : decode cJ9_floorMod_7cf53 5 = .ok (.iload_n 1, 1) := by decide +kernel
theorem dJ9_floorMod_7cf53_6 : decode cJ9_floorMod_7cf53 6 = .ok (.ixor, 1) := by decide +kernel
theorem dJ9_floorMod_7cf53_7 : decode cJ9_floorMod_7cf53 7 = .ok (.ifCond .ge 11, 3) := by decide +kernel
theorem dJ9_floorMod_7cf53_10 : decode cJ9_floorMod_7cf53 10 = .ok (.iload_n 2, 1) := by decide +kernel
theorem dJ9_floorMod_7cf53_11 : decode cJ9_floorMod_7cf53 11 = .ok (.ifCond .eq 7, 3) := by decide +kernel
theorem dJ9_floorMod_7cf53_14 : decode cJ9_floorMod_7cf53 14 = .ok (.iload_n 2, 1) := by decide +kernel
theorem dJ9_floorMod_7cf53_15 : decode cJ9_floorMod_7cf53 15 = .ok (.iload_n 1, 1) := by decide +kernel
theorem dJ9_floorMod_7cf53_16 : decode cJ9_floorMod_7cf53 16 = .ok (.iadd, 1) := by decide +kernel
theorem dJ9_floorMod_7cf53_17 : decode cJ9_floorMod_7cf53 17 = .ok (.ireturn, 1) := by decide +kernel
theorem dJ9_floorMod_7cf53_18 : decode cJ9_floorMod_7cf53 18 = .ok (.iload_n 2, 1) := by decide +kernel
theorem dJ9_floorMod_7cf53_19 : decode cJ9_floorMod_7cf53 19 = .ok (.ireturn, 1) := by decide +kernel
theorem dJ9_min_7cf53_0 : decode cJ9_min_7cf53 0 = .ok (.iload_n 0, 1) := by decide +kernel
theorem dJ9_min_7cf53_1 : decode cJ9_min_7cf53 1 = .ok (.iload_n 1, 1) := by decide +kernel
theorem dJ9_min_7cf53_2 : decode cJ9_min_7cf53 2 = .ok (.if_icmp .gt 7, 3) := by decide +kernel
theorem dJ9_min_7cf53_5 : decode cJ9_min_7cf53 5 = .ok (.iload_n 0, 1) := by decide +kernel
theorem dJ9_min_7cf53_6 : decode cJ9_min_7cf53 6 = .ok (.goto 4, 3) := by decide +kernel
theorem dJ9_min_7cf53_9 : decode cJ9_min_7cf53 9 = .ok (.iload_n 1, 1) := by decide +kernel
theorem dJ9_min_7cf53_10 : decode cJ9_min_7cf53 10 = .ok (.ireturn, 1) := by decide +kernel
theorem dJ0_length_8abf5_0 : decode cJ0_length_8abf5 0 = .ok (.aload_n 0, 1) := by decide +kernel
theorem dJ0_length_8abf5_1 : decode cJ0_length_8abf5 1 = .ok (.getfield 9, 3) := by decide +kernel
theorem dJ0_length_8abf5_4 : decode cJ0_length_8abf5 4 = .ok (.arraylength, 1) := by decide +kernel
theorem dJ0_length_8abf5_5 : decode cJ0_length_8abf5 5 = .ok (.aload_n 0, 1) := by decide +kernel
theorem dJ0_length_8abf5_6 : decode cJ0_length_8abf5 6 = .ok (.invokevirtual 335, 3) := by decide +kernel
theorem dJ0_length_8abf5_9 : decode cJ0_length_8abf5 9 = .ok (.ishr, 1) := by decide +kernel
theorem dJ0_length_8abf5_10 : decode cJ0_length_8abf5 10 = .ok (.ireturn, 1) := by decide +kernel
theorem dJ0_charAt_5068e_0 : decode cJ0_charAt_5068e 0 = .ok (.aload_n 0, 1) := by decide +kernel
theorem dJ0_charAt_5068e_1 : decode cJ0_charAt_5068e 1 = .ok (.invokevirtual 492, 3) := by decide +kernel
theorem dJ0_charAt_5068e_4 : decode cJ0_charAt_5068e 4 = .ok (.ifCond .eq 12, 3) := by decide +kernel
theorem dJ0_charAt_5068e_7 : decode cJ0_charAt_5068e 7 = .ok (.aload_n 0, 1) := by decide +kernel
theorem dJ0_charAt_5068e_8 : decode cJ0_charAt_5068e 8 = .ok (.getfield 9, 3) := by decide +kernel
theorem dJ0_charAt_5068e_11 : decode cJ0_charAt_5068e 11 = .ok (.iload_n 1, 1) := by decide +kernel
theorem dJ0_charAt_5068e_12 : decode cJ0_charAt_5068e 12 = .ok (.invokestatic 495, 3) := by decide +kernel
theorem dJ0_charAt_5068e_15 : decode cJ0_charAt_5068e 15 = .ok (.ireturn, 1) := by decide +kernel
theorem dJ0_charAt_5068e_16 : decode cJ0_charAt_5068e 16 = .ok (.aload_n 0, 1) := by decide +kernel
theorem dJ0_charAt_5068e_17 : decode cJ0_charAt_5068e 17 = .ok (.getfield 9, 3) := by decide +kernel
theorem dJ0_charAt_5068e_20 : decode cJ0_charAt_5068e 20 = .ok (.iload_n 1, 1) := by decide +kernel
theorem dJ0_charAt_5068e_21 : decode cJ0_charAt_5068e 21 = .ok (.invokestatic 498, 3) := by decide +kernel
theorem dJ0_charAt_5068e_24 : decode cJ0_charAt_5068e 24 = .ok (.ireturn, 1) := by decide +kernel
theorem dJ0_coder_7d493_0 : decode cJ0_coder_7d493 0 = .ok (.getstatic 38, 3) := by decide +kernel
theorem dJ0_coder_7d493_3 : decode cJ0_coder_7d493 3 = .ok (.ifCond .eq 10, 3) := by decide +kernel
theorem dJ0_coder_7d493_6 : decode cJ0_coder_7d493 6 = .ok (.aload_n 0, 1) := by decide +kernel
theorem dJ0_coder_7d493_7 : decode cJ0_coder_7d493 7 = .ok (.getfield 15, 3) := by decide +kernel
theorem dJ0_coder_7d493_10 : decode cJ0_coder_7d493 10 = .ok (.goto 4, 3) := by decide +kernel
theorem dJ0_coder_7d493_13 : decode cJ0_coder_7d493 13 = .ok (.iconst 1, 1) := by decide +kernel
theorem dJ0_coder_7d493_14 : decode cJ0_coder_7d493 14 = .ok (.ireturn, 1) := by decide +kernel
theorem dJ0_isLatin1_aae02_0 : decode cJ0_isLatin1_aae02 0 = .ok (.getstatic 38, 3) := by decide +kernel
theorem dJ0_isLatin1_aae02_3 : decode cJ0_isLatin1_aae02 3 = .ok (.ifCond .eq 14, 3) := by decide +kernel
theorem dJ0_isLatin1_aae02_6 : decode cJ0_isLatin1_aae02 6 = .ok (.aload_n 0, 1) := by decide +kernel
theorem dJ0_isLatin1_aae02_7 : decode cJ0_isLatin1_aae02 7 = .ok (.getfield 15, 3) := by decide +kernel
theorem dJ0_isLatin1_aae02_10 : decode cJ0_isLatin1_aae02 10 = .ok (.ifCond .ne 7, 3) := by decide +kernel
theorem dJ0_isLatin1_aae02_13 : decode cJ0_isLatin1_aae02 13 = .ok (.iconst 1, 1) := by decide +kernel
theorem dJ0_isLatin1_aae02_14 : decode cJ0_isLatin1_aae02 14 = .ok (.goto 4, 3) := by decide +kernel
theorem dJ0_isLatin1_aae02_17 : decode cJ0_isLatin1_aae02 17 = .ok (.iconst 0, 1) := by decide +kernel
theorem dJ0_isLatin1_aae02_18 : decode cJ0_isLatin1_aae02 18 = .ok (.ireturn, 1) := by decide +kernel
theorem dJ0_checkIndex_df160_0 : decode cJ0_checkIndex_df160 0 = .ok (.iload_n 0, 1) := by decide +kernel
theorem dJ0_checkIndex_df160_1 : decode cJ0_checkIndex_df160 1 = .ok (.iload_n 1, 1) := by decide +kernel
theorem dJ0_checkIndex_df160_2 : decode cJ0_checkIndex_df160 2 = .ok (.getstatic 1053, 3) := by decide +kernel
theorem dJ0_checkIndex_df160_5 : decode cJ0_checkIndex_df160 5 = .ok (.invokestatic 1059, 3) := by decide +kernel
theorem dJ0_checkIndex_df160_8 : decode cJ0_checkIndex_df160 8 = .ok (.pop, 1) := by decide +kernel
theorem dJ0_checkIndex_df160_9 : decode cJ0_checkIndex_df160 9 = .ok (.return_, 1) := by decide +kernel
theorem dJ1_charAt_3b067_0 : decode cJ1_charAt_3b067 0 = .ok (.iload_n 1, 1) := by decide +kernel
theorem dJ1_charAt_3b067_1 : decode cJ1_charAt_3b067 1 = .ok (.aload_n 0, 1) := by decide +kernel
theorem dJ1_charAt_3b067_2 : decode cJ1_charAt_3b067 2 = .ok (.arraylength, 1) := by decide +kernel
theorem dJ1_charAt_3b067_3 : decode cJ1_charAt_3b067 3 = .ok (.invokestatic 9, 3) := by decide +kernel
theorem dJ1_charAt_3b067_6 : decode cJ1_charAt_3b067 6 = .ok (.aload_n 0, 1) := by decide +kernel
theorem dJ1_charAt_3b067_7 : decode cJ1_charAt_3b067 7 = .ok (.iload_n 1, 1) := by decide +kernel
theorem dJ1_charAt_3b067_8 : decode cJ1_charAt_3b067 8 = .ok (.baload, 1) := by decide +kernel
theorem dJ1_charAt_3b067_9 : decode cJ1_charAt_3b067 9 = .ok (.sipush 255, 3) := by decide +kernel
theorem dJ1_charAt_3b067_12 : decode cJ1_charAt_3b067 12 = .ok (.iand, 1) := by decide +kernel
theorem dJ1_charAt_3b067_13 : decode cJ1_charAt_3b067 13 = .ok (.i2c, 1) := by decide +kernel
theorem dJ1_charAt_3b067_14 : decode cJ1_charAt_3b067 14 = .ok (.ireturn, 1) := by decide +kernel
theorem dJ2_getChar_3b067_0 : decode cJ2_getChar_3b067 0 = .ok (.getstatic 44, 3) := by decide +kernel
theorem dJ2_getChar_3b067_3 : decode cJ2_getChar_3b067 3 = .ok (.ifCond .ne 25, 3) := by decide +kernel
theorem dJ2_getChar_3b067_6 : decode cJ2_getChar_3b067 6 = .ok (.iload_n 1, 1) := by decide +kernel
theorem dJ2_getChar_3b067_7 : decode cJ2_getChar_3b067 7 = .ok (.ifCond .lt 11, 3) := by decide +kernel
theorem dJ2_getChar_3b067_10 : decode cJ2_getChar_3b067 10 = .ok (.iload_n 1, 1) := by decide +kernel
theorem dJ2_getChar_3b067_11 : decode cJ2_getChar_3b067 11 = .ok (.aload_n 0, 1) := by decide +kernel
theorem dJ2_getChar_3b067_12 : decode cJ2_getChar_3b067 12 = .ok (.invokestatic 48, 3) := by decide +kernel
theorem dJ2_getChar_3b067_15 : decode cJ2_getChar_3b067 15 = .ok (.if_icmp .lt 13, 3) := by decide +kernel
theorem dJ2_getChar_3b067_18 : decode cJ2_getChar_3b067 18 = .ok (.new 52, 3) := by decide +kernel
theorem dJ2_getChar_3b067_21 : decode cJ2_getChar_3b067 21 = .ok (.dup, 1) := by decide +kernel
theorem dJ2_getChar_3b067_22 : decode cJ2_getChar_3b067 22 = .ok (.ldc 54, 2) := by decide +kernel
theorem dJ2_getChar_3b067_24 : decode cJ2_getChar_3b067 24 = .ok (.invokespecial 56, 3) := by decide +kernel
theorem dJ2_getChar_3b067_27 : decode cJ2_getChar_3b067 27 = .ok (.athrow, 1) := by decide +kernel
theorem dJ2_getChar_3b067_28 : decode cJ2_getChar_3b067 28 = .ok (.iload_n 1, 1) := by decide +kernel
theorem dJ2_getChar_3b067_29 : decode cJ2_getChar_3b067 29 = .ok (.iconst 1, 1) := by decide +kernel
theorem dJ2_getChar_3b067_30 : decode cJ2_getChar_3b067 30 = .ok (.ishl, 1) := by decide +kernel
theorem dJ2_getChar_3b067_31 : decode cJ2_getChar_3b067 31 = .ok (.istore_n 1, 1) := by decide +kernel
theorem dJ2_getChar_3b067_32 : decode cJ2_getChar_3b067 32 = .ok (.aload_n 0, 1) := by decide +kernel
theorem dJ2_getChar_3b067_33 : decode cJ2_getChar_3b067 33 = .ok (.iload_n 1, 1) := by decide +kernel
theorem dJ2_getChar_3b067_34 : decode cJ2_getChar_3b067 34 = .ok (.iinc 1 1, 3) := by decide +kernel
theorem dJ2_getChar_3b067_37 : decode cJ2_getChar_3b067 37 = .ok (.baload, 1) := by decide +kernel
theorem dJ2_getChar_3b067_38 : decode cJ2_getChar_3b067 38 = .ok (.sipush 255, 3) := by decide +kernel
theorem dJ2_getChar_3b067_41 : decode cJ2_getChar_3b067 41 = .ok (.iand, 1) := by decide +kernel
theorem dJ2_getChar_3b067_42 : decode cJ2_getChar_3b067 42 = .ok (.getstatic 59, 3) := by decide +kernel
theorem dJ2_getChar_3b067_45 : decode cJ2_getChar_3b067 45 = .ok (.ishl, 1) := by decide +kernel
theorem dJ2_getChar_3b067_46 : decode cJ2_getChar_3b067 46 = .ok (.aload_n 0, 1) := by decide +kernel
theorem dJ2_getChar_3b067_47 : decode cJ2_getChar_3b067 47 = .ok (.iload_n 1, 1) := by decide +kernel
theorem dJ2_getChar_3b067_48 : decode cJ2_getChar_3b067 48 = .ok (.baload, 1) := by decide +kernel
theorem dJ2_getChar_3b067_49 : decode cJ2_getChar_3b067 49 = .ok (.sipush 255, 3) := by decide +kernel
theorem dJ2_getChar_3b067_52 : decode cJ2_getChar_3b067 52 = .ok (.iand, 1) := by decide +kernel
theorem dJ2_getChar_3b067_53 : decode cJ2_getChar_3b067 53 = .ok (.getstatic 63, 3) := by decide +kernel
theorem dJ2_getChar_3b067_56 : decode cJ2_getChar_3b067 56 = .ok (.ishl, 1) := by decide +kernel
theorem dJ2_getChar_3b067_57 : decode cJ2_getChar_3b067 57 = .ok (.ior, 1) := by decide +kernel
theorem dJ2_getChar_3b067_58 : decode cJ2_getChar_3b067 58 = .ok (.i2c, 1) := by decide +kernel
theorem dJ2_getChar_3b067_59 : decode cJ2_getChar_3b067 59 = .ok (.ireturn, 1) := by decide +kernel
theorem dJ2_length_9d52b_0 : decode cJ2_length_9d52b 0 = .ok (.aload_n 0, 1) := by decide +kernel
theorem dJ2_length_9d52b_1 : decode cJ2_length_9d52b 1 = .ok (.arraylength, 1) := by decide +kernel
theorem dJ2_length_9d52b_2 : decode cJ2_length_9d52b 2 = .ok (.iconst 1, 1) := by decide +kernel
theorem dJ2_length_9d52b_3 : decode cJ2_length_9d52b 3 = .ok (.ishr, 1) := by decide +kernel
theorem dJ2_length_9d52b_4 : decode cJ2_length_9d52b 4 = .ok (.ireturn, 1) := by decide +kernel
theorem dJ2_charAt_3b067_0 : decode cJ2_charAt_3b067 0 = .ok (.iload_n 1, 1) := by decide +kernel
theorem dJ2_charAt_3b067_1 : decode cJ2_charAt_3b067 1 = .ok (.aload_n 0, 1) := by decide +kernel
theorem dJ2_charAt_3b067_2 : decode cJ2_charAt_3b067 2 = .ok (.invokestatic 67, 3) := by decide +kernel
theorem dJ2_charAt_3b067_5 : decode cJ2_charAt_3b067 5 = .ok (.aload_n 0, 1) := by decide +kernel
theorem dJ2_charAt_3b067_6 : decode cJ2_charAt_3b067 6 = .ok (.iload_n 1, 1) := by decide +kernel
theorem dJ2_charAt_3b067_7 : decode cJ2_charAt_3b067 7 = .ok (.invokestatic 71, 3) := by decide +kernel
theorem dJ2_charAt_3b067_10 : decode cJ2_charAt_3b067 10 = .ok (.ireturn, 1) := by decide +kernel
theorem dJ2_checkIndex_2214a_0 : decode cJ2_checkIndex_2214a 0 = .ok (.iload_n 0, 1) := by decide +kernel
theorem dJ2_checkIndex_2214a_1 : decode cJ2_checkIndex_2214a 1 = .ok (.aload_n 1, 1) := by decide +kernel
theorem dJ2_checkIndex_2214a_2 : decode cJ2_checkIndex_2214a 2 = .ok (.invokestatic 48, 3) := by decide +kernel
theorem dJ2_checkIndex_2214a_5 : decode cJ2_checkIndex_2214a 5 = .ok (.invokestatic 414, 3) := by decide +kernel
theorem dJ2_checkIndex_2214a_8 : decode cJ2_checkIndex_2214a 8 = .ok (.return_, 1) := by decide +kernel
theorem dJ3_checkIndex_8e157_0 : decode cJ3_checkIndex_8e157 0 = .ok (.iload_n 0, 1) := by decide +kernel
theorem dJ3_checkIndex_8e157_1 : decode cJ3_checkIndex_8e157 1 = .ok (.ifCond .lt 8, 3) := by decide +kernel
theorem dJ3_checkIndex_8e157_4 : decode cJ3_checkIndex_8e157 4 = .ok (.iload_n 0, 1) := by decide +kernel
theorem dJ3_checkIndex_8e157_5 : decode cJ3_checkIndex_8e157 5 = .ok (.iload_n 1, 1) := by decide +kernel
theorem dJ3_checkIndex_8e157_6 : decode cJ3_checkIndex_8e157 6 = .ok (.if_icmp .lt 10, 3) := by decide +kernel
theorem dJ3_checkIndex_8e157_9 : decode cJ3_checkIndex_8e157 9 = .ok (.aload_n 2, 1) := by decide +kernel
theorem dJ3_checkIndex_8e157_10 : decode cJ3_checkIndex_8e157 10 = .ok (.iload_n 0, 1) := by decide +kernel
theorem dJ3_checkIndex_8e157_11 : decode cJ3_checkIndex_8e157 11 = .ok (.iload_n 1, 1) := by decide +kernel
theorem dJ3_checkIndex_8e157_12 : decode cJ3_checkIndex_8e157 12 = .ok (.invokestatic 95, 3) := by decide +kernel
theorem dJ3_checkIndex_8e157_15 : decode cJ3_checkIndex_8e157 15 = .ok (.athrow, 1) := by decide +kernel
theorem dJ3_checkIndex_8e157_16 : decode cJ3_checkIndex_8e157 16 = .ok (.iload_n 0, 1) := by decide +kernel
theorem dJ3_checkIndex_8e157_17 : decode cJ3_checkIndex_8e157 17 = .ok (.ireturn, 1) := by decide +kernel
end
section
theorem dL_parse_0 : decode cL_parse 0 = .ok (.aload_n 2, 1) := by decide +kernel
theorem dL_parse_1 : decode cL_parse 1 = .ok (.iconst 0, 1) := by decide +kernel
theorem dL_parse_2 : decode cL_parse 2 = .ok (.aload_n 0, 1) := by decide +kernel
theorem dL_parse_3 : decode cL_parse 3 = .ok (.iload_n 1, 1) := by decide +kernel
theorem dL_parse_4 : decode cL_parse 4 = .ok (.invokevirtual 7, 3) := by decide +kernel
theorem dL_parse_7 : decode cL_parse 7 = .ok (.i2l, 1) := by decide +kernel
theorem dL_parse_8 : decode cL_parse 8 = .ok (.lastore, 1) := by decide +kernel
theorem dL_parse_9 : decode cL_parse 9 = .ok (.goto 6, 3) := by decide +kernel
theorem dL_parse_12 : decode cL_parse 12 = .ok (.astore_n 3, 1) := by decide +kernel
theorem dL_parse_13 : decode cL_parse 13 = .ok (.iconst 1, 1) := by decide +kernel
theorem dL_parse_14 : decode cL_parse 14 = .ok (.ireturn, 1) := by decide +kernel
theorem dL_parse_15 : decode cL_parse 15 = .ok (.iconst 0, 1) := by decide +kernel
theorem dL_parse_16 : decode cL_parse 16 = .ok (.ireturn, 1) := by decide +kernel
theorem dL_knows_0 : decode cL_knows 0 = .ok (.aload_n 3, 1) := by decide +kernel
theorem dL_knows_1 : decode cL_knows 1 = .ok (.iconst 0, 1) := by decide +kernel
theorem dL_knows_2 : decode cL_knows 2 = .ok (.aload_n 0, 1) := by decide +kernel
theorem dL_knows_3 : decode cL_knows 3 = .ok (.iload_n 1, 1) := by decide +kernel
theorem dL_knows_4 : decode cL_knows 4 = .ok (.iload_n 2, 1) := by decide +kernel
theorem dL_knows_5 : decode cL_knows 5 = .ok (.invokevirtual 15, 3) := by decide +kernel
theorem dL_knows_8 : decode cL_knows 8 = .ok (.ifCond .eq 7, 3) := by decide +kernel
theorem dL_knows_11 : decode cL_knows 11 = .ok (.lconst 1, 1) := by decide +kernel
theorem dL_knows_12 : decode cL_knows 12 = .ok (.goto 4, 3) := by decide +kernel
theorem dL_knows_15 : decode cL_knows 15 = .ok (.lconst 0, 1) := by decide +kernel
theorem dL_knows_16 : decode cL_knows 16 = .ok (.lastore, 1) := by decide +kernel
theorem dL_knows_17 : decode cL_knows 17 = .ok (.goto 7, 3) := by decide +kernel
theorem dL_knows_20 : decode cL_knows 20 = .ok (.astore 4, 2) := by decide +kernel
theorem dL_knows_22 : decode cL_knows 22 = .ok (.iconst 1, 1) := by decide +kernel
theorem dL_knows_23 : decode cL_knows 23 = .ok (.ireturn, 1) := by decide +kernel
theorem dL_knows_24 : decode cL_knows 24 = .ok (.iconst 0, 1) := by decide +kernel
theorem dL_knows_25 : decode cL_knows 25 = .ok (.ireturn, 1) := by decide +kernel
theorem dL_delay_0 : decode cL_delay 0 = .ok (.aload_n 3, 1) := by decide +kernel
theorem dL_delay_1 : decode cL_delay 1 = .ok (.iconst 0, 1) := by decide +kernel
theorem dL_delay_2 : decode cL_delay 2 = .ok (.aload_n 0, 1) := by decide +kernel
theorem dL_delay_3 : decode cL_delay 3 = .ok (.iload_n 1, 1) := by decide +kernel
theorem dL_delay_4 : decode cL_delay 4 = .ok (.iload_n 2, 1) := by decide +kernel
theorem dL_delay_5 : decode cL_delay 5 = .ok (.invokevirtual 21, 3) := by decide +kernel
theorem dL_delay_8 : decode cL_delay 8 = .ok (.i2l, 1) := by decide +kernel
theorem dL_delay_9 : decode cL_delay 9 = .ok (.lastore, 1) := by decide +kernel
theorem dL_delay_10 : decode cL_delay 10 = .ok (.goto 7, 3) := by decide +kernel
theorem dL_delay_13 : decode cL_delay 13 = .ok (.astore 4, 2) := by decide +kernel
theorem dL_delay_15 : decode cL_delay 15 = .ok (.iconst 1, 1) := by decide +kernel
theorem dL_delay_16 : decode cL_delay 16 = .ok (.ireturn, 1) := by decide +kernel
theorem dL_delay_17 : decode cL_delay 17 = .ok (.iconst 0, 1) := by decide +kernel
theorem dL_delay_18 : decode cL_delay 18 = .ok (.ireturn, 1) := by decide +kernel
theorem dL_introductionsNeeded_0 : decode cL_introductionsNeeded 0 = .ok (.aload_n 3, 1) := by decide +kernel
theorem dL_introductionsNeeded_1 : decode cL_introductionsNeeded 1 = .ok (.iconst 0, 1) := by decide +kernel
theorem dL_introductionsNeeded_2 : decode cL_introductionsNeeded 2 = .ok (.aload_n 0, 1) := by decide +kernel
theorem dL_introductionsNeeded_3 : decode cL_introductionsNeeded 3 = .ok (.iload_n 1, 1) := by decide +kernel
theorem dL_introductionsNeeded_4 : decode cL_introductionsNeeded 4 = .ok (.iload_n 2, 1) := by decide +kernel
theorem dL_introductionsNeeded_5 : decode cL_introductionsNeeded 5 = .ok (.invokevirtual 25, 3) := by decide +kernel
theorem dL_introductionsNeeded_8 : decode cL_introductionsNeeded 8 = .ok (.i2l, 1) := by decide +kernel
theorem dL_introductionsNeeded_9 : decode cL_introductionsNeeded 9 = .ok (.lastore, 1) := by decide +kernel
theorem dL_introductionsNeeded_10 : decode cL_introductionsNeeded 10 = .ok (.goto 11, 3) := by decide +kernel
theorem dL_introductionsNeeded_13 : decode cL_introductionsNeeded 13 = .ok (.astore 4, 2) := by decide +kernel
theorem dL_introductionsNeeded_15 : decode cL_introductionsNeeded 15 = .ok (.iconst 1, 1) := by decide +kernel
theorem dL_introductionsNeeded_16 : decode cL_introductionsNeeded 16 = .ok (.ireturn, 1) := by decide +kernel
theorem dL_introductionsNeeded_17 : decode cL_introductionsNeeded 17 = .ok (.astore 4, 2) := by decide +kernel
theorem dL_introductionsNeeded_19 : decode cL_introductionsNeeded 19 = .ok (.iconst 2, 1) := by decide +kernel
theorem dL_introductionsNeeded_20 : decode cL_introductionsNeeded 20 = .ok (.ireturn, 1) := by decide +kernel
theorem dL_introductionsNeeded_21 : decode cL_introductionsNeeded 21 = .ok (.iconst 0, 1) := by decide +kernel
theorem dL_introductionsNeeded_22 : decode cL_introductionsNeeded 22 = .ok (.ireturn, 1) := by decide +kernel
theorem dL_introducer_0 : decode cL_introducer 0 = .ok (.aload_n 3, 1) := by decide +kernel
theorem dL_introducer_1 : decode cL_introducer 1 = .ok (.iconst 0, 1) := by decide +kernel
theorem dL_introducer_2 : decode cL_introducer 2 = .ok (.aload_n 0, 1) := by decide +kernel
theorem dL_introducer_3 : decode cL_introducer 3 = .ok (.iload_n 1, 1) := by decide +kernel
theorem dL_introducer_4 : decode cL_introducer 4 = .ok (.iload_n 2, 1) := by decide +kernel
theorem dL_introducer_5 : decode cL_introducer 5 = .ok (.invokevirtual 28, 3) := by decide +kernel
theorem dL_introducer_8 : decode cL_introducer 8 = .ok (.i2l, 1) := by decide +kernel
theorem dL_introducer_9 : decode cL_introducer 9 = .ok (.lastore, 1) := by decide +kernel
theorem dL_introducer_10 : decode cL_introducer 10 = .ok (.goto 11, 3) := by decide +kernel
theorem dL_introducer_13 : decode cL_introducer 13 = .ok (.astore 4, 2) := by decide +kernel
theorem dL_introducer_15 : decode cL_introducer 15 = .ok (.iconst 1, 1) := by decide +kernel
theorem dL_introducer_16 : decode cL_introducer 16 = .ok (.ireturn, 1) := by decide +kernel
theorem dL_introducer_17 : decode cL_introducer 17 = .ok (.astore 4, 2) := by decide +kernel
theorem dL_introducer_19 : decode cL_introducer 19 = .ok (.iconst 2, 1) := by decide +kernel
theorem dL_introducer_20 : decode cL_introducer 20 = .ok (.ireturn, 1) := by decide +kernel
theorem dL_introducer_21 : decode cL_introducer 21 = .ok (.iconst 0, 1) := by decide +kernel
theorem dL_introducer_22 : decode cL_introducer 22 = .ok (.ireturn, 1) := by decide +kernel
theorem dL_load_0 : decode cL_load 0 = .ok (.aload_n 2, 1) := by decide +kernel
theorem dL_load_1 : decode cL_load 1 = .ok (.iconst 0, 1) := by decide +kernel
theorem dL_load_2 : decode cL_load 2 = .ok (.aload_n 0, 1) := by decide +kernel
theorem dL_load_3 : decode cL_load 3 = .ok (.iload_n 1, 1) := by decide +kernel
theorem dL_load_4 : decode cL_load 4 = .ok (.invokevirtual 31, 3) := by decide +kernel
theorem dL_load_7 : decode cL_load 7 = .ok (.i2l, 1) := by decide +kernel
theorem dL_load_8 : decode cL_load 8 = .ok (.lastore, 1) := by decide +kernel
theorem dL_load_9 : decode cL_load 9 = .ok (.goto 6, 3) := by decide +kernel
theorem dL_load_12 : decode cL_load 12 = .ok (.astore_n 3, 1) := by decide +kernel
theorem dL_load_13 : decode cL_load 13 = .ok (.iconst 1, 1) := by decide +kernel
theorem dL_load_14 : decode cL_load 14 = .ok (.ireturn, 1) := by decide +kernel
theorem dL_load_15 : decode cL_load 15 = .ok (.iconst 0, 1) := by decide +kernel
theorem dL_load_16 : decode cL_load 16 = .ok (.ireturn, 1) := by decide +kernel
theorem dL_bestRelay_0 : decode cL_bestRelay 0 = .ok (.aload_n 3, 1) := by decide +kernel
theorem dL_bestRelay_1 : decode cL_bestRelay 1 = .ok (.iconst 0, 1) := by decide +kernel
theorem dL_bestRelay_2 : decode cL_bestRelay 2 = .ok (.aload_n 0, 1) := by decide +kernel
theorem dL_bestRelay_3 : decode cL_bestRelay 3 = .ok (.iload_n 1, 1) := by decide +kernel
theorem dL_bestRelay_4 : decode cL_bestRelay 4 = .ok (.iload_n 2, 1) := by decide +kernel
theorem dL_bestRelay_5 : decode cL_bestRelay 5 = .ok (.invokevirtual 34, 3) := by decide +kernel
theorem dL_bestRelay_8 : decode cL_bestRelay 8 = .ok (.i2l, 1) := by decide +kernel
theorem dL_bestRelay_9 : decode cL_bestRelay 9 = .ok (.lastore, 1) := by decide +kernel
theorem dL_bestRelay_10 : decode cL_bestRelay 10 = .ok (.goto 11, 3) := by decide +kernel
theorem dL_bestRelay_13 : decode cL_bestRelay 13 = .ok (.astore 4, 2) := by decide +kernel
theorem dL_bestRelay_15 : decode cL_bestRelay 15 = .ok (.iconst 1, 1) := by decide +kernel
theorem dL_bestRelay_16 : decode cL_bestRelay 16 = .ok (.ireturn, 1) := by decide +kernel
theorem dL_bestRelay_17 : decode cL_bestRelay 17 = .ok (.astore 4, 2) := by decide +kernel
theorem dL_bestRelay_19 : decode cL_bestRelay 19 = .ok (.iconst 2, 1) := by decide +kernel
theorem dL_bestRelay_20 : decode cL_bestRelay 20 = .ok (.ireturn, 1) := by decide +kernel
theorem dL_bestRelay_21 : decode cL_bestRelay 21 = .ok (.iconst 0, 1) := by decide +kernel
theorem dL_bestRelay_22 : decode cL_bestRelay 22 = .ok (.ireturn, 1) := by decide +kernel
theorem dL_relayScore_0 : decode cL_relayScore 0 = .ok (.aload 4, 2) := by decide +kernel
theorem dL_relayScore_2 : decode cL_relayScore 2 = .ok (.iconst 0, 1) := by decide +kernel
theorem dL_relayScore_3 : decode cL_relayScore 3 = .ok (.aload_n 0, 1) := by decide +kernel
theorem dL_relayScore_4 : decode cL_relayScore 4 = .ok (.iload_n 1, 1) := by decide +kernel
theorem dL_relayScore_5 : decode cL_relayScore 5 = .ok (.iload_n 2, 1) := by decide +kernel
theorem dL_relayScore_6 : decode cL_relayScore 6 = .ok (.iload_n 3, 1) := by decide +kernel
theorem dL_relayScore_7 : decode cL_relayScore 7 = .ok (.invokevirtual 37, 3) := by decide +kernel
theorem dL_relayScore_10 : decode cL_relayScore 10 = .ok (.i2l, 1) := by decide +kernel
theorem dL_relayScore_11 : decode cL_relayScore 11 = .ok (.lastore, 1) := by decide +kernel
theorem dL_relayScore_12 : decode cL_relayScore 12 = .ok (.goto 15, 3) := by decide +kernel
theorem dL_relayScore_15 : decode cL_relayScore 15 = .ok (.astore 5, 2) := by decide +kernel
theorem dL_relayScore_17 : decode cL_relayScore 17 = .ok (.iconst 1, 1) := by decide +kernel
theorem dL_relayScore_18 : decode cL_relayScore 18 = .ok (.ireturn, 1) := by decide +kernel
theorem dL_relayScore_19 : decode cL_relayScore 19 = .ok (.astore 5, 2) := by decide +kernel
theorem dL_relayScore_21 : decode cL_relayScore 21 = .ok (.iconst 2, 1) := by decide +kernel
theorem dL_relayScore_22 : decode cL_relayScore 22 = .ok (.ireturn, 1) := by decide +kernel
theorem dL_relayScore_23 : decode cL_relayScore 23 = .ok (.astore 5, 2) := by decide +kernel
theorem dL_relayScore_25 : decode cL_relayScore 25 = .ok (.iconst 3, 1) := by decide +kernel
theorem dL_relayScore_26 : decode cL_relayScore 26 = .ok (.ireturn, 1) := by decide +kernel
theorem dL_relayScore_27 : decode cL_relayScore 27 = .ok (.iconst 0, 1) := by decide +kernel
theorem dL_relayScore_28 : decode cL_relayScore 28 = .ok (.ireturn, 1) := by decide +kernel
theorem dL_session_0 : decode cL_session 0 = .ok (.aload_n 3, 1) := by decide +kernel
theorem dL_session_1 : decode cL_session 1 = .ok (.iconst 0, 1) := by decide +kernel
theorem dL_session_2 : decode cL_session 2 = .ok (.aload_n 0, 1) := by decide +kernel
theorem dL_session_3 : decode cL_session 3 = .ok (.iload_n 1, 1) := by decide +kernel
theorem dL_session_4 : decode cL_session 4 = .ok (.iload_n 2, 1) := by decide +kernel
theorem dL_session_5 : decode cL_session 5 = .ok (.invokevirtual 43, 3) := by decide +kernel
theorem dL_session_8 : decode cL_session 8 = .ok (.i2l, 1) := by decide +kernel
theorem dL_session_9 : decode cL_session 9 = .ok (.lastore, 1) := by decide +kernel
theorem dL_session_10 : decode cL_session 10 = .ok (.goto 11, 3) := by decide +kernel
theorem dL_session_13 : decode cL_session 13 = .ok (.astore 4, 2) := by decide +kernel
theorem dL_session_15 : decode cL_session 15 = .ok (.iconst 1, 1) := by decide +kernel
theorem dL_session_16 : decode cL_session 16 = .ok (.ireturn, 1) := by decide +kernel
theorem dL_session_17 : decode cL_session 17 = .ok (.astore 4, 2) := by decide +kernel
theorem dL_session_19 : decode cL_session 19 = .ok (.iconst 2, 1) := by decide +kernel
theorem dL_session_20 : decode cL_session 20 = .ok (.ireturn, 1) := by decide +kernel
theorem dL_session_21 : decode cL_session 21 = .ok (.iconst 0, 1) := by decide +kernel
theorem dL_session_22 : decode cL_session 22 = .ok (.ireturn, 1) := by decide +kernel
theorem dL_path_0 : decode cL_path 0 = .ok (.aload_n 2, 1) := by decide +kernel
theorem dL_path_1 : decode cL_path 1 = .ok (.iconst 0, 1) := by decide +kernel
theorem dL_path_2 : decode cL_path 2 = .ok (.aload_n 0, 1) := by decide +kernel
theorem dL_path_3 : decode cL_path 3 = .ok (.iload_n 1, 1) := by decide +kernel
theorem dL_path_4 : decode cL_path 4 = .ok (.invokevirtual 46, 3) := by decide +kernel
theorem dL_path_7 : decode cL_path 7 = .ok (.i2l, 1) := by decide +kernel
theorem dL_path_8 : decode cL_path 8 = .ok (.lastore, 1) := by decide +kernel
theorem dL_path_9 : decode cL_path 9 = .ok (.goto 6, 3) := by decide +kernel
theorem dL_path_12 : decode cL_path 12 = .ok (.astore_n 3, 1) := by decide +kernel
theorem dL_path_13 : decode cL_path 13 = .ok (.iconst 1, 1) := by decide +kernel
theorem dL_path_14 : decode cL_path 14 = .ok (.ireturn, 1) := by decide +kernel
theorem dL_path_15 : decode cL_path 15 = .ok (.iconst 0, 1) := by decide +kernel
theorem dL_path_16 : decode cL_path 16 = .ok (.ireturn, 1) := by decide +kernel
theorem dL_oldPath_0 : decode cL_oldPath 0 = .ok (.aload_n 2, 1) := by decide +kernel
theorem dL_oldPath_1 : decode cL_oldPath 1 = .ok (.iconst 0, 1) := by decide +kernel
theorem dL_oldPath_2 : decode cL_oldPath 2 = .ok (.aload_n 0, 1) := by decide +kernel
theorem dL_oldPath_3 : decode cL_oldPath 3 = .ok (.iload_n 1, 1) := by decide +kernel
theorem dL_oldPath_4 : decode cL_oldPath 4 = .ok (.invokevirtual 49, 3) := by decide +kernel
theorem dL_oldPath_7 : decode cL_oldPath 7 = .ok (.i2l, 1) := by decide +kernel
theorem dL_oldPath_8 : decode cL_oldPath 8 = .ok (.lastore, 1) := by decide +kernel
theorem dL_oldPath_9 : decode cL_oldPath 9 = .ok (.goto 6, 3) := by decide +kernel
theorem dL_oldPath_12 : decode cL_oldPath 12 = .ok (.astore_n 3, 1) := by decide +kernel
theorem dL_oldPath_13 : decode cL_oldPath 13 = .ok (.iconst 1, 1) := by decide +kernel
theorem dL_oldPath_14 : decode cL_oldPath 14 = .ok (.ireturn, 1) := by decide +kernel
theorem dL_oldPath_15 : decode cL_oldPath 15 = .ok (.iconst 0, 1) := by decide +kernel
theorem dL_oldPath_16 : decode cL_oldPath 16 = .ok (.ireturn, 1) := by decide +kernel
theorem dL_successes_0 : decode cL_successes 0 = .ok (.aload_n 2, 1) := by decide +kernel
theorem dL_successes_1 : decode cL_successes 1 = .ok (.iconst 0, 1) := by decide +kernel
theorem dL_successes_2 : decode cL_successes 2 = .ok (.aload_n 0, 1) := by decide +kernel
theorem dL_successes_3 : decode cL_successes 3 = .ok (.iload_n 1, 1) := by decide +kernel
theorem dL_successes_4 : decode cL_successes 4 = .ok (.invokevirtual 52, 3) := by decide +kernel
theorem dL_successes_7 : decode cL_successes 7 = .ok (.i2l, 1) := by decide +kernel
theorem dL_successes_8 : decode cL_successes 8 = .ok (.lastore, 1) := by decide +kernel
theorem dL_successes_9 : decode cL_successes 9 = .ok (.goto 6, 3) := by decide +kernel
theorem dL_successes_12 : decode cL_successes 12 = .ok (.astore_n 3, 1) := by decide +kernel
theorem dL_successes_13 : decode cL_successes 13 = .ok (.iconst 1, 1) := by decide +kernel
theorem dL_successes_14 : decode cL_successes 14 = .ok (.ireturn, 1) := by decide +kernel
theorem dL_successes_15 : decode cL_successes 15 = .ok (.iconst 0, 1) := by decide +kernel
theorem dL_successes_16 : decode cL_successes 16 = .ok (.ireturn, 1) := by decide +kernel
theorem dL_messages_0 : decode cL_messages 0 = .ok (.aload_n 3, 1) := by decide +kernel
theorem dL_messages_1 : decode cL_messages 1 = .ok (.iconst 0, 1) := by decide +kernel
theorem dL_messages_2 : decode cL_messages 2 = .ok (.aload_n 0, 1) := by decide +kernel
theorem dL_messages_3 : decode cL_messages 3 = .ok (.iload_n 1, 1) := by decide +kernel
theorem dL_messages_4 : decode cL_messages 4 = .ok (.iload_n 2, 1) := by decide +kernel
theorem dL_messages_5 : decode cL_messages 5 = .ok (.invokevirtual 55, 3) := by decide +kernel
theorem dL_messages_8 : decode cL_messages 8 = .ok (.i2l, 1) := by decide +kernel
theorem dL_messages_9 : decode cL_messages 9 = .ok (.lastore, 1) := by decide +kernel
theorem dL_messages_10 : decode cL_messages 10 = .ok (.goto 11, 3) := by decide +kernel
theorem dL_messages_13 : decode cL_messages 13 = .ok (.astore 4, 2) := by decide +kernel
theorem dL_messages_15 : decode cL_messages 15 = .ok (.iconst 1, 1) := by decide +kernel
theorem dL_messages_16 : decode cL_messages 16 = .ok (.ireturn, 1) := by decide +kernel
theorem dL_messages_17 : decode cL_messages 17 = .ok (.astore 4, 2) := by decide +kernel
theorem dL_messages_19 : decode cL_messages 19 = .ok (.iconst 2, 1) := by decide +kernel
theorem dL_messages_20 : decode cL_messages 20 = .ok (.ireturn, 1) := by decide +kernel
theorem dL_messages_21 : decode cL_messages 21 = .ok (.iconst 0, 1) := by decide +kernel
theorem dL_messages_22 : decode cL_messages 22 = .ok (.ireturn, 1) := by decide +kernel
theorem dL_lastValue_0 : decode cL_lastValue 0 = .ok (.aload_n 2, 1) := by decide +kernel
theorem dL_lastValue_1 : decode cL_lastValue 1 = .ok (.iconst 0, 1) := by decide +kernel
theorem dL_lastValue_2 : decode cL_lastValue 2 = .ok (.aload_n 0, 1) := by decide +kernel
theorem dL_lastValue_3 : decode cL_lastValue 3 = .ok (.iload_n 1, 1) := by decide +kernel
theorem dL_lastValue_4 : decode cL_lastValue 4 = .ok (.invokevirtual 58, 3) := by decide +kernel
theorem dL_lastValue_7 : decode cL_lastValue 7 = .ok (.i2l, 1) := by decide +kernel
theorem dL_lastValue_8 : decode cL_lastValue 8 = .ok (.lastore, 1) := by decide +kernel
theorem dL_lastValue_9 : decode cL_lastValue 9 = .ok (.goto 9, 3) := by decide +kernel
theorem dL_lastValue_12 : decode cL_lastValue 12 = .ok (.astore_n 3, 1) := by decide +kernel
theorem dL_lastValue_13 : decode cL_lastValue 13 = .ok (.iconst 1, 1) := by decide +kernel
theorem dL_lastValue_14 : decode cL_lastValue 14 = .ok (.ireturn, 1) := by decide +kernel
theorem dL_lastValue_15 : decode cL_lastValue 15 = .ok (.astore_n 3, 1) := by decide +kernel
theorem dL_lastValue_16 : decode cL_lastValue 16 = .ok (.iconst 2, 1) := by decide +kernel
theorem dL_lastValue_17 : decode cL_lastValue 17 = .ok (.ireturn, 1) := by decide +kernel
theorem dL_lastValue_18 : decode cL_lastValue 18 = .ok (.iconst 0, 1) := by decide +kernel
theorem dL_lastValue_19 : decode cL_lastValue 19 = .ok (.ireturn, 1) := by decide +kernel
theorem dL_digest_0 : decode cL_digest 0 = .ok (.aload_n 2, 1) := by decide +kernel
theorem dL_digest_1 : decode cL_digest 1 = .ok (.iconst 0, 1) := by decide +kernel
theorem dL_digest_2 : decode cL_digest 2 = .ok (.aload_n 0, 1) := by decide +kernel
theorem dL_digest_3 : decode cL_digest 3 = .ok (.iload_n 1, 1) := by decide +kernel
theorem dL_digest_4 : decode cL_digest 4 = .ok (.invokevirtual 61, 3) := by decide +kernel
theorem dL_digest_7 : decode cL_digest 7 = .ok (.i2l, 1) := by decide +kernel
theorem dL_digest_8 : decode cL_digest 8 = .ok (.lastore, 1) := by decide +kernel
theorem dL_digest_9 : decode cL_digest 9 = .ok (.goto 6, 3) := by decide +kernel
theorem dL_digest_12 : decode cL_digest 12 = .ok (.astore_n 3, 1) := by decide +kernel
theorem dL_digest_13 : decode cL_digest 13 = .ok (.iconst 1, 1) := by decide +kernel
theorem dL_digest_14 : decode cL_digest 14 = .ok (.ireturn, 1) := by decide +kernel
theorem dL_digest_15 : decode cL_digest 15 = .ok (.iconst 0, 1) := by decide +kernel
theorem dL_digest_16 : decode cL_digest 16 = .ok (.ireturn, 1) := by decide +kernel
theorem dL_key_0 : decode cL_key 0 = .ok (.aload_n 2, 1) := by decide +kernel
theorem dL_key_1 : decode cL_key 1 = .ok (.iconst 0, 1) := by decide +kernel
theorem dL_key_2 : decode cL_key 2 = .ok (.aload_n 0, 1) := by decide +kernel
theorem dL_key_3 : decode cL_key 3 = .ok (.iload_n 1, 1) := by decide +kernel
theorem dL_key_4 : decode cL_key 4 = .ok (.invokevirtual 64, 3) := by decide +kernel
theorem dL_key_7 : decode cL_key 7 = .ok (.i2l, 1) := by decide +kernel
theorem dL_key_8 : decode cL_key 8 = .ok (.lastore, 1) := by decide +kernel
theorem dL_key_9 : decode cL_key 9 = .ok (.goto 6, 3) := by decide +kernel
theorem dL_key_12 : decode cL_key 12 = .ok (.astore_n 3, 1) := by decide +kernel
theorem dL_key_13 : decode cL_key 13 = .ok (.iconst 1, 1) := by decide +kernel
theorem dL_key_14 : decode cL_key 14 = .ok (.ireturn, 1) := by decide +kernel
theorem dL_key_15 : decode cL_key 15 = .ok (.iconst 0, 1) := by decide +kernel
theorem dL_key_16 : decode cL_key 16 = .ok (.ireturn, 1) := by decide +kernel
theorem dL_oldestKey_0 : decode cL_oldestKey 0 = .ok (.aload_n 2, 1) := by decide +kernel
theorem dL_oldestKey_1 : decode cL_oldestKey 1 = .ok (.iconst 0, 1) := by decide +kernel
theorem dL_oldestKey_2 : decode cL_oldestKey 2 = .ok (.aload_n 0, 1) := by decide +kernel
theorem dL_oldestKey_3 : decode cL_oldestKey 3 = .ok (.iload_n 1, 1) := by decide +kernel
theorem dL_oldestKey_4 : decode cL_oldestKey 4 = .ok (.invokevirtual 67, 3) := by decide +kernel
theorem dL_oldestKey_7 : decode cL_oldestKey 7 = .ok (.i2l, 1) := by decide +kernel
theorem dL_oldestKey_8 : decode cL_oldestKey 8 = .ok (.lastore, 1) := by decide +kernel
theorem dL_oldestKey_9 : decode cL_oldestKey 9 = .ok (.goto 6, 3) := by decide +kernel
theorem dL_oldestKey_12 : decode cL_oldestKey 12 = .ok (.astore_n 3, 1) := by decide +kernel
theorem dL_oldestKey_13 : decode cL_oldestKey 13 = .ok (.iconst 1, 1) := by decide +kernel
theorem dL_oldestKey_14 : decode cL_oldestKey 14 = .ok (.ireturn, 1) := by decide +kernel
theorem dL_oldestKey_15 : decode cL_oldestKey 15 = .ok (.iconst 0, 1) := by decide +kernel
theorem dL_oldestKey_16 : decode cL_oldestKey 16 = .ok (.ireturn, 1) := by decide +kernel
theorem dL_keyStart_0 : decode cL_keyStart 0 = .ok (.aload_n 2, 1) := by decide +kernel
theorem dL_keyStart_1 : decode cL_keyStart 1 = .ok (.iconst 0, 1) := by decide +kernel
theorem dL_keyStart_2 : decode cL_keyStart 2 = .ok (.aload_n 0, 1) := by decide +kernel
theorem dL_keyStart_3 : decode cL_keyStart 3 = .ok (.iload_n 1, 1) := by decide +kernel
theorem dL_keyStart_4 : decode cL_keyStart 4 = .ok (.invokevirtual 70, 3) := by decide +kernel
theorem dL_keyStart_7 : decode cL_keyStart 7 = .ok (.i2l, 1) := by decide +kernel
theorem dL_keyStart_8 : decode cL_keyStart 8 = .ok (.lastore, 1) := by decide +kernel
theorem dL_keyStart_9 : decode cL_keyStart 9 = .ok (.goto 6, 3) := by decide +kernel
theorem dL_keyStart_12 : decode cL_keyStart 12 = .ok (.astore_n 3, 1) := by decide +kernel
theorem dL_keyStart_13 : decode cL_keyStart 13 = .ok (.iconst 1, 1) := by decide +kernel
theorem dL_keyStart_14 : decode cL_keyStart 14 = .ok (.ireturn, 1) := by decide +kernel
theorem dL_keyStart_15 : decode cL_keyStart 15 = .ok (.iconst 0, 1) := by decide +kernel
theorem dL_keyStart_16 : decode cL_keyStart 16 = .ok (.ireturn, 1) := by decide +kernel
theorem dL_ticksToDeliver_0 : decode cL_ticksToDeliver 0 = .ok (.aload_n 2, 1) := by decide +kernel
theorem dL_ticksToDeliver_1 : decode cL_ticksToDeliver 1 = .ok (.iconst 0, 1) := by decide +kernel
theorem dL_ticksToDeliver_2 : decode cL_ticksToDeliver 2 = .ok (.aload_n 0, 1) := by decide +kernel
theorem dL_ticksToDeliver_3 : decode cL_ticksToDeliver 3 = .ok (.iload_n 1, 1) := by decide +kernel
theorem dL_ticksToDeliver_4 : decode cL_ticksToDeliver 4 = .ok (.invokevirtual 73, 3) := by decide +kernel
theorem dL_ticksToDeliver_7 : decode cL_ticksToDeliver 7 = .ok (.i2l, 1) := by decide +kernel
theorem dL_ticksToDeliver_8 : decode cL_ticksToDeliver 8 = .ok (.lastore, 1) := by decide +kernel
theorem dL_ticksToDeliver_9 : decode cL_ticksToDeliver 9 = .ok (.goto 6, 3) := by decide +kernel
theorem dL_ticksToDeliver_12 : decode cL_ticksToDeliver 12 = .ok (.astore_n 3, 1) := by decide +kernel
theorem dL_ticksToDeliver_13 : decode cL_ticksToDeliver 13 = .ok (.iconst 1, 1) := by decide +kernel
theorem dL_ticksToDeliver_14 : decode cL_ticksToDeliver 14 = .ok (.ireturn, 1) := by decide +kernel
theorem dL_ticksToDeliver_15 : decode cL_ticksToDeliver 15 = .ok (.iconst 0, 1) := by decide +kernel
theorem dL_ticksToDeliver_16 : decode cL_ticksToDeliver 16 = .ok (.ireturn, 1) := by decide +kernel
theorem dL_ticksToDirect_0 : decode cL_ticksToDirect 0 = .ok (.aload_n 2, 1) := by decide +kernel
theorem dL_ticksToDirect_1 : decode cL_ticksToDirect 1 = .ok (.iconst 0, 1) := by decide +kernel
theorem dL_ticksToDirect_2 : decode cL_ticksToDirect 2 = .ok (.aload_n 0, 1) := by decide +kernel
theorem dL_ticksToDirect_3 : decode cL_ticksToDirect 3 = .ok (.iload_n 1, 1) := by decide +kernel
theorem dL_ticksToDirect_4 : decode cL_ticksToDirect 4 = .ok (.invokevirtual 76, 3) := by decide +kernel
theorem dL_ticksToDirect_7 : decode cL_ticksToDirect 7 = .ok (.i2l, 1) := by decide +kernel
theorem dL_ticksToDirect_8 : decode cL_ticksToDirect 8 = .ok (.lastore, 1) := by decide +kernel
theorem dL_ticksToDirect_9 : decode cL_ticksToDirect 9 = .ok (.goto 6, 3) := by decide +kernel
theorem dL_ticksToDirect_12 : decode cL_ticksToDirect 12 = .ok (.astore_n 3, 1) := by decide +kernel
theorem dL_ticksToDirect_13 : decode cL_ticksToDirect 13 = .ok (.iconst 1, 1) := by decide +kernel
theorem dL_ticksToDirect_14 : decode cL_ticksToDirect 14 = .ok (.ireturn, 1) := by decide +kernel
theorem dL_ticksToDirect_15 : decode cL_ticksToDirect 15 = .ok (.iconst 0, 1) := by decide +kernel
theorem dL_ticksToDirect_16 : decode cL_ticksToDirect 16 = .ok (.ireturn, 1) := by decide +kernel
theorem dL_run_0 : decode cL_run 0 = .ok (.aload_n 2, 1) := by decide +kernel
theorem dL_run_1 : decode cL_run 1 = .ok (.iconst 0, 1) := by decide +kernel
theorem dL_run_2 : decode cL_run 2 = .ok (.aload_n 0, 1) := by decide +kernel
theorem dL_run_3 : decode cL_run 3 = .ok (.iload_n 1, 1) := by decide +kernel
theorem dL_run_4 : decode cL_run 4 = .ok (.invokevirtual 79, 3) := by decide +kernel
theorem dL_run_7 : decode cL_run 7 = .ok (.i2l, 1) := by decide +kernel
theorem dL_run_8 : decode cL_run 8 = .ok (.lastore, 1) := by decide +kernel
theorem dL_run_9 : decode cL_run 9 = .ok (.goto 9, 3) := by decide +kernel
theorem dL_run_12 : decode cL_run 12 = .ok (.astore_n 3, 1) := by decide +kernel
theorem dL_run_13 : decode cL_run 13 = .ok (.iconst 1, 1) := by decide +kernel
theorem dL_run_14 : decode cL_run 14 = .ok (.ireturn, 1) := by decide +kernel
theorem dL_run_15 : decode cL_run 15 = .ok (.astore_n 3, 1) := by decide +kernel
theorem dL_run_16 : decode cL_run 16 = .ok (.iconst 2, 1) := by decide +kernel
theorem dL_run_17 : decode cL_run 17 = .ok (.ireturn, 1) := by decide +kernel
theorem dL_run_18 : decode cL_run 18 = .ok (.iconst 0, 1) := by decide +kernel
theorem dL_run_19 : decode cL_run 19 = .ok (.ireturn, 1) := by decide +kernel
theorem dL_introduce_0 : decode cL_introduce 0 = .ok (.aload 4, 2) := by decide +kernel
theorem dL_introduce_2 : decode cL_introduce 2 = .ok (.iconst 0, 1) := by decide +kernel
theorem dL_introduce_3 : decode cL_introduce 3 = .ok (.aload_n 0, 1) := by decide +kernel
theorem dL_introduce_4 : decode cL_introduce 4 = .ok (.iload_n 1, 1) := by decide +kernel
theorem dL_introduce_5 : decode cL_introduce 5 = .ok (.iload_n 2, 1) := by decide +kernel
theorem dL_introduce_6 : decode cL_introduce 6 = .ok (.iload_n 3, 1) := by decide +kernel
theorem dL_introduce_7 : decode cL_introduce 7 = .ok (.invokevirtual 82, 3) := by decide +kernel
theorem dL_introduce_10 : decode cL_introduce 10 = .ok (.i2l, 1) := by decide +kernel
theorem dL_introduce_11 : decode cL_introduce 11 = .ok (.lastore, 1) := by decide +kernel
theorem dL_introduce_12 : decode cL_introduce 12 = .ok (.goto 15, 3) := by decide +kernel
theorem dL_introduce_15 : decode cL_introduce 15 = .ok (.astore 5, 2) := by decide +kernel
theorem dL_introduce_17 : decode cL_introduce 17 = .ok (.iconst 1, 1) := by decide +kernel
theorem dL_introduce_18 : decode cL_introduce 18 = .ok (.ireturn, 1) := by decide +kernel
theorem dL_introduce_19 : decode cL_introduce 19 = .ok (.astore 5, 2) := by decide +kernel
theorem dL_introduce_21 : decode cL_introduce 21 = .ok (.iconst 2, 1) := by decide +kernel
theorem dL_introduce_22 : decode cL_introduce 22 = .ok (.ireturn, 1) := by decide +kernel
theorem dL_introduce_23 : decode cL_introduce 23 = .ok (.astore 5, 2) := by decide +kernel
theorem dL_introduce_25 : decode cL_introduce 25 = .ok (.iconst 3, 1) := by decide +kernel
theorem dL_introduce_26 : decode cL_introduce 26 = .ok (.ireturn, 1) := by decide +kernel
theorem dL_introduce_27 : decode cL_introduce 27 = .ok (.iconst 0, 1) := by decide +kernel
theorem dL_introduce_28 : decode cL_introduce 28 = .ok (.ireturn, 1) := by decide +kernel
theorem dL_open_0 : decode cL_open 0 = .ok (.aload_n 3, 1) := by decide +kernel
theorem dL_open_1 : decode cL_open 1 = .ok (.iconst 0, 1) := by decide +kernel
theorem dL_open_2 : decode cL_open 2 = .ok (.aload_n 0, 1) := by decide +kernel
theorem dL_open_3 : decode cL_open 3 = .ok (.iload_n 1, 1) := by decide +kernel
theorem dL_open_4 : decode cL_open 4 = .ok (.iload_n 2, 1) := by decide +kernel
theorem dL_open_5 : decode cL_open 5 = .ok (.invokevirtual 85, 3) := by decide +kernel
theorem dL_open_8 : decode cL_open 8 = .ok (.i2l, 1) := by decide +kernel
theorem dL_open_9 : decode cL_open 9 = .ok (.lastore, 1) := by decide +kernel
theorem dL_open_10 : decode cL_open 10 = .ok (.goto 15, 3) := by decide +kernel
theorem dL_open_13 : decode cL_open 13 = .ok (.astore 4, 2) := by decide +kernel
theorem dL_open_15 : decode cL_open 15 = .ok (.iconst 1, 1) := by decide +kernel
theorem dL_open_16 : decode cL_open 16 = .ok (.ireturn, 1) := by decide +kernel
theorem dL_open_17 : decode cL_open 17 = .ok (.astore 4, 2) := by decide +kernel
theorem dL_open_19 : decode cL_open 19 = .ok (.iconst 2, 1) := by decide +kernel
theorem dL_open_20 : decode cL_open 20 = .ok (.ireturn, 1) := by decide +kernel
theorem dL_open_21 : decode cL_open 21 = .ok (.astore 4, 2) := by decide +kernel
theorem dL_open_23 : decode cL_open 23 = .ok (.iconst 3, 1) := by decide +kernel
theorem dL_open_24 : decode cL_open 24 = .ok (.ireturn, 1) := by decide +kernel
theorem dL_open_25 : decode cL_open 25 = .ok (.iconst 0, 1) := by decide +kernel
theorem dL_open_26 : decode cL_open 26 = .ok (.ireturn, 1) := by decide +kernel
theorem dL_send_0 : decode cL_send 0 = .ok (.aload_n 3, 1) := by decide +kernel
theorem dL_send_1 : decode cL_send 1 = .ok (.iconst 0, 1) := by decide +kernel
theorem dL_send_2 : decode cL_send 2 = .ok (.aload_n 0, 1) := by decide +kernel
theorem dL_send_3 : decode cL_send 3 = .ok (.iload_n 1, 1) := by decide +kernel
theorem dL_send_4 : decode cL_send 4 = .ok (.iload_n 2, 1) := by decide +kernel
theorem dL_send_5 : decode cL_send 5 = .ok (.invokevirtual 88, 3) := by decide +kernel
theorem dL_send_8 : decode cL_send 8 = .ok (.i2l, 1) := by decide +kernel
theorem dL_send_9 : decode cL_send 9 = .ok (.lastore, 1) := by decide +kernel
theorem dL_send_10 : decode cL_send 10 = .ok (.goto 11, 3) := by decide +kernel
theorem dL_send_13 : decode cL_send 13 = .ok (.astore 4, 2) := by decide +kernel
theorem dL_send_15 : decode cL_send 15 = .ok (.iconst 1, 1) := by decide +kernel
theorem dL_send_16 : decode cL_send 16 = .ok (.ireturn, 1) := by decide +kernel
theorem dL_send_17 : decode cL_send 17 = .ok (.astore 4, 2) := by decide +kernel
theorem dL_send_19 : decode cL_send 19 = .ok (.iconst 2, 1) := by decide +kernel
theorem dL_send_20 : decode cL_send 20 = .ok (.ireturn, 1) := by decide +kernel
theorem dL_send_21 : decode cL_send 21 = .ok (.iconst 0, 1) := by decide +kernel
theorem dL_send_22 : decode cL_send 22 = .ok (.ireturn, 1) := by decide +kernel
theorem dL_setLink_0 : decode cL_setLink 0 = .ok (.aload 4, 2) := by decide +kernel
theorem dL_setLink_2 : decode cL_setLink 2 = .ok (.iconst 0, 1) := by decide +kernel
theorem dL_setLink_3 : decode cL_setLink 3 = .ok (.aload_n 0, 1) := by decide +kernel
theorem dL_setLink_4 : decode cL_setLink 4 = .ok (.iload_n 1, 1) := by decide +kernel
theorem dL_setLink_5 : decode cL_setLink 5 = .ok (.iload_n 2, 1) := by decide +kernel
theorem dL_setLink_6 : decode cL_setLink 6 = .ok (.iload_n 3, 1) := by decide +kernel
theorem dL_setLink_7 : decode cL_setLink 7 = .ok (.invokevirtual 91, 3) := by decide +kernel
theorem dL_setLink_10 : decode cL_setLink 10 = .ok (.i2l, 1) := by decide +kernel
theorem dL_setLink_11 : decode cL_setLink 11 = .ok (.lastore, 1) := by decide +kernel
theorem dL_setLink_12 : decode cL_setLink 12 = .ok (.goto 15, 3) := by decide +kernel
theorem dL_setLink_15 : decode cL_setLink 15 = .ok (.astore 5, 2) := by decide +kernel
theorem dL_setLink_17 : decode cL_setLink 17 = .ok (.iconst 1, 1) := by decide +kernel
theorem dL_setLink_18 : decode cL_setLink 18 = .ok (.ireturn, 1) := by decide +kernel
theorem dL_setLink_19 : decode cL_setLink 19 = .ok (.astore 5, 2) := by decide +kernel
theorem dL_setLink_21 : decode cL_setLink 21 = .ok (.iconst 2, 1) := by decide +kernel
theorem dL_setLink_22 : decode cL_setLink 22 = .ok (.ireturn, 1) := by decide +kernel
theorem dL_setLink_23 : decode cL_setLink 23 = .ok (.astore 5, 2) := by decide +kernel
theorem dL_setLink_25 : decode cL_setLink 25 = .ok (.iconst 3, 1) := by decide +kernel
theorem dL_setLink_26 : decode cL_setLink 26 = .ok (.ireturn, 1) := by decide +kernel
theorem dL_setLink_27 : decode cL_setLink 27 = .ok (.iconst 0, 1) := by decide +kernel
theorem dL_setLink_28 : decode cL_setLink 28 = .ok (.ireturn, 1) := by decide +kernel
theorem dL_close_0 : decode cL_close 0 = .ok (.aload_n 2, 1) := by decide +kernel
theorem dL_close_1 : decode cL_close 1 = .ok (.iconst 0, 1) := by decide +kernel
theorem dL_close_2 : decode cL_close 2 = .ok (.aload_n 0, 1) := by decide +kernel
theorem dL_close_3 : decode cL_close 3 = .ok (.iload_n 1, 1) := by decide +kernel
theorem dL_close_4 : decode cL_close 4 = .ok (.invokevirtual 95, 3) := by decide +kernel
theorem dL_close_7 : decode cL_close 7 = .ok (.i2l, 1) := by decide +kernel
theorem dL_close_8 : decode cL_close 8 = .ok (.lastore, 1) := by decide +kernel
theorem dL_close_9 : decode cL_close 9 = .ok (.goto 9, 3) := by decide +kernel
theorem dL_close_12 : decode cL_close 12 = .ok (.astore_n 3, 1) := by decide +kernel
theorem dL_close_13 : decode cL_close 13 = .ok (.iconst 1, 1) := by decide +kernel
theorem dL_close_14 : decode cL_close 14 = .ok (.ireturn, 1) := by decide +kernel
theorem dL_close_15 : decode cL_close 15 = .ok (.astore_n 3, 1) := by decide +kernel
theorem dL_close_16 : decode cL_close 16 = .ok (.iconst 2, 1) := by decide +kernel
theorem dL_close_17 : decode cL_close 17 = .ok (.ireturn, 1) := by decide +kernel
theorem dL_close_18 : decode cL_close 18 = .ok (.iconst 0, 1) := by decide +kernel
theorem dL_close_19 : decode cL_close 19 = .ok (.ireturn, 1) := by decide +kernel
theorem dL_saveSnapshot_0 : decode cL_saveSnapshot 0 = .ok (.aload_n 2, 1) := by decide +kernel
theorem dL_saveSnapshot_1 : decode cL_saveSnapshot 1 = .ok (.iconst 0, 1) := by decide +kernel
theorem dL_saveSnapshot_2 : decode cL_saveSnapshot 2 = .ok (.aload_n 0, 1) := by decide +kernel
theorem dL_saveSnapshot_3 : decode cL_saveSnapshot 3 = .ok (.iload_n 1, 1) := by decide +kernel
theorem dL_saveSnapshot_4 : decode cL_saveSnapshot 4 = .ok (.invokevirtual 98, 3) := by decide +kernel
theorem dL_saveSnapshot_7 : decode cL_saveSnapshot 7 = .ok (.ifCond .eq 7, 3) := by decide +kernel
theorem dL_saveSnapshot_10 : decode cL_saveSnapshot 10 = .ok (.lconst 1, 1) := by decide +kernel
theorem dL_saveSnapshot_11 : decode cL_saveSnapshot 11 = .ok (.goto 4, 3) := by decide +kernel
theorem dL_saveSnapshot_14 : decode cL_saveSnapshot 14 = .ok (.lconst 0, 1) := by decide +kernel
theorem dL_saveSnapshot_15 : decode cL_saveSnapshot 15 = .ok (.lastore, 1) := by decide +kernel
theorem dL_saveSnapshot_16 : decode cL_saveSnapshot 16 = .ok (.goto 6, 3) := by decide +kernel
theorem dL_saveSnapshot_19 : decode cL_saveSnapshot 19 = .ok (.astore_n 3, 1) := by decide +kernel
theorem dL_saveSnapshot_20 : decode cL_saveSnapshot 20 = .ok (.iconst 1, 1) := by decide +kernel
theorem dL_saveSnapshot_21 : decode cL_saveSnapshot 21 = .ok (.ireturn, 1) := by decide +kernel
theorem dL_saveSnapshot_22 : decode cL_saveSnapshot 22 = .ok (.iconst 0, 1) := by decide +kernel
theorem dL_saveSnapshot_23 : decode cL_saveSnapshot 23 = .ok (.ireturn, 1) := by decide +kernel
theorem dL_restoreSnapshot_0 : decode cL_restoreSnapshot 0 = .ok (.aload_n 2, 1) := by decide +kernel
theorem dL_restoreSnapshot_1 : decode cL_restoreSnapshot 1 = .ok (.iconst 0, 1) := by decide +kernel
theorem dL_restoreSnapshot_2 : decode cL_restoreSnapshot 2 = .ok (.aload_n 0, 1) := by decide +kernel
theorem dL_restoreSnapshot_3 : decode cL_restoreSnapshot 3 = .ok (.iload_n 1, 1) := by decide +kernel
theorem dL_restoreSnapshot_4 : decode cL_restoreSnapshot 4 = .ok (.invokevirtual 102, 3) := by decide +kernel
theorem dL_restoreSnapshot_7 : decode cL_restoreSnapshot 7 = .ok (.i2l, 1) := by decide +kernel
theorem dL_restoreSnapshot_8 : decode cL_restoreSnapshot 8 = .ok (.lastore, 1) := by decide +kernel
theorem dL_restoreSnapshot_9 : decode cL_restoreSnapshot 9 = .ok (.goto 9, 3) := by decide +kernel
theorem dL_restoreSnapshot_12 : decode cL_restoreSnapshot 12 = .ok (.astore_n 3, 1) := by decide +kernel
theorem dL_restoreSnapshot_13 : decode cL_restoreSnapshot 13 = .ok (.iconst 1, 1) := by decide +kernel
theorem dL_restoreSnapshot_14 : decode cL_restoreSnapshot 14 = .ok (.ireturn, 1) := by decide +kernel
theorem dL_restoreSnapshot_15 : decode cL_restoreSnapshot 15 = .ok (.astore_n 3, 1) := by decide +kernel
theorem dL_restoreSnapshot_16 : decode cL_restoreSnapshot 16 = .ok (.iconst 2, 1) := by decide +kernel
theorem dL_restoreSnapshot_17 : decode cL_restoreSnapshot 17 = .ok (.ireturn, 1) := by decide +kernel
theorem dL_restoreSnapshot_18 : decode cL_restoreSnapshot 18 = .ok (.iconst 0, 1) := by decide +kernel
theorem dL_restoreSnapshot_19 : decode cL_restoreSnapshot 19 = .ok (.ireturn, 1) := by decide +kernel
theorem dL_law_0 : decode cL_law 0 = .ok (.new 8, 3) := by decide +kernel
theorem dL_law_3 : decode cL_law 3 = .ok (.dup, 1) := by decide +kernel
theorem dL_law_4 : decode cL_law 4 = .ok (.invokespecial 105, 3) := by decide +kernel
theorem dL_law_7 : decode cL_law 7 = .ok (.astore_n 1, 1) := by decide +kernel
theorem dL_law_8 : decode cL_law 8 = .ok (.new 106, 3) := by decide +kernel
theorem dL_law_11 : decode cL_law 11 = .ok (.dup, 1) := by decide +kernel
theorem dL_law_12 : decode cL_law 12 = .ok (.invokespecial 108, 3) := by decide +kernel
theorem dL_law_15 : decode cL_law 15 = .ok (.astore_n 2, 1) := by decide +kernel
theorem dL_law_16 : decode cL_law 16 = .ok (.iconst 1, 1) := by decide +kernel
theorem dL_law_17 : decode cL_law 17 = .ok (.newarray .long, 2) := by decide +kernel
theorem dL_law_19 : decode cL_law 19 = .ok (.astore_n 3, 1) := by decide +kernel
theorem dL_law_20 : decode cL_law 20 = .ok (.iconst 0, 1) := by decide +kernel
theorem dL_law_21 : decode cL_law 21 = .ok (.istore 4, 2) := by decide +kernel
theorem dL_law_23 : decode cL_law 23 = .ok (.iload 4, 2) := by decide +kernel
theorem dL_law_25 : decode cL_law 25 = .ok (.aload_n 0, 1) := by decide +kernel
theorem dL_law_26 : decode cL_law 26 = .ok (.arraylength, 1) := by decide +kernel
theorem dL_law_27 : decode cL_law 27 = .ok (.bipush 6, 2) := by decide +kernel
theorem dL_law_29 : decode cL_law 29 = .ok (.isub, 1) := by decide +kernel
theorem dL_law_30 : decode cL_law 30 = .ok (.if_icmp .gt 2084, 3) := by decide +kernel
theorem dL_law_33 : decode cL_law 33 = .ok (.aload_n 0, 1) := by decide +kernel
theorem dL_law_34 : decode cL_law 34 = .ok (.iload 4, 2) := by decide +kernel
theorem dL_law_36 : decode cL_law 36 = .ok (.iaload, 1) := by decide +kernel
theorem dL_law_37 : decode cL_law 37 = .ok (.bipush 63, 2) := by decide +kernel
theorem dL_law_39 : decode cL_law 39 = .ok (.iand, 1) := by decide +kernel
theorem dL_law_40 : decode cL_law 40 = .ok (.tableswitch 2068 0 33 #[152, 225, 281, 294, 307, 320, 395, 463, 531, 599, 655, 723, 803, 816, 884, 940, 996, 1052, 1120, 1176, 1232, 1288, 1344, 1400, 1456, 1512, 1568, 1648, 1716, 1784, 1880, 1936, 1949, 2012], 152) := by decide +kernel
theorem dL_law_192 : decode cL_law 192 = .ok (.aload_n 1, 1) := by decide +kernel
theorem dL_law_193 : decode cL_law 193 = .ok (.aload_n 0, 1) := by decide +kernel
theorem dL_law_194 : decode cL_law 194 = .ok (.iload 4, 2) := by decide +kernel
theorem dL_law_196 : decode cL_law 196 = .ok (.iconst 1, 1) := by decide +kernel
theorem dL_law_197 : decode cL_law 197 = .ok (.iadd, 1) := by decide +kernel
theorem dL_law_198 : decode cL_law 198 = .ok (.iaload, 1) := by decide +kernel
theorem dL_law_199 : decode cL_law 199 = .ok (.aload_n 0, 1) := by decide +kernel
theorem dL_law_200 : decode cL_law 200 = .ok (.iload 4, 2) := by decide +kernel
theorem dL_law_202 : decode cL_law 202 = .ok (.iconst 2, 1) := by decide +kernel
theorem dL_law_203 : decode cL_law 203 = .ok (.iadd, 1) := by decide +kernel
theorem dL_law_204 : decode cL_law 204 = .ok (.iaload, 1) := by decide +kernel
theorem dL_law_205 : decode cL_law 205 = .ok (.aload_n 0, 1) := by decide +kernel
theorem dL_law_206 : decode cL_law 206 = .ok (.iload 4, 2) := by decide +kernel
theorem dL_law_208 : decode cL_law 208 = .ok (.iconst 3, 1) := by decide +kernel
theorem dL_law_209 : decode cL_law 209 = .ok (.iadd, 1) := by decide +kernel
theorem dL_law_210 : decode cL_law 210 = .ok (.iaload, 1) := by decide +kernel
theorem dL_law_211 : decode cL_law 211 = .ok (.aload_n 0, 1) := by decide +kernel
theorem dL_law_212 : decode cL_law 212 = .ok (.iload 4, 2) := by decide +kernel
theorem dL_law_214 : decode cL_law 214 = .ok (.iconst 4, 1) := by decide +kernel
theorem dL_law_215 : decode cL_law 215 = .ok (.iadd, 1) := by decide +kernel
theorem dL_law_216 : decode cL_law 216 = .ok (.iaload, 1) := by decide +kernel
theorem dL_law_217 : decode cL_law 217 = .ok (.aload_n 0, 1) := by decide +kernel
theorem dL_law_218 : decode cL_law 218 = .ok (.iload 4, 2) := by decide +kernel
theorem dL_law_220 : decode cL_law 220 = .ok (.iconst 5, 1) := by decide +kernel
theorem dL_law_221 : decode cL_law 221 = .ok (.iadd, 1) := by decide +kernel
theorem dL_law_222 : decode cL_law 222 = .ok (.iaload, 1) := by decide +kernel
theorem dL_law_223 : decode cL_law 223 = .ok (.invokevirtual 109, 3) := by decide +kernel
theorem dL_law_226 : decode cL_law 226 = .ok (.aload_n 2, 1) := by decide +kernel
theorem dL_law_227 : decode cL_law 227 = .ok (.aload_n 0, 1) := by decide +kernel
theorem dL_law_228 : decode cL_law 228 = .ok (.iload 4, 2) := by decide +kernel
theorem dL_law_230 : decode cL_law 230 = .ok (.iconst 1, 1) := by decide +kernel
theorem dL_law_231 : decode cL_law 231 = .ok (.iadd, 1) := by decide +kernel
theorem dL_law_232 : decode cL_law 232 = .ok (.iaload, 1) := by decide +kernel
theorem dL_law_233 : decode cL_law 233 = .ok (.aload_n 0, 1) := by decide +kernel
theorem dL_law_234 : decode cL_law 234 = .ok (.iload 4, 2) := by decide +kernel
theorem dL_law_236 : decode cL_law 236 = .ok (.iconst 2, 1) := by decide +kernel
theorem dL_law_237 : decode cL_law 237 = .ok (.iadd, 1) := by decide +kernel
theorem dL_law_238 : decode cL_law 238 = .ok (.iaload, 1) := by decide +kernel
theorem dL_law_239 : decode cL_law 239 = .ok (.aload_n 0, 1) := by decide +kernel
theorem dL_law_240 : decode cL_law 240 = .ok (.iload 4, 2) := by decide +kernel
theorem dL_law_242 : decode cL_law 242 = .ok (.iconst 3, 1) := by decide +kernel
theorem dL_law_243 : decode cL_law 243 = .ok (.iadd, 1) := by decide +kernel
theorem dL_law_244 : decode cL_law 244 = .ok (.iaload, 1) := by decide +kernel
theorem dL_law_245 : decode cL_law 245 = .ok (.aload_n 0, 1) := by decide +kernel
theorem dL_law_246 : decode cL_law 246 = .ok (.iload 4, 2) := by decide +kernel
theorem dL_law_248 : decode cL_law 248 = .ok (.iconst 4, 1) := by decide +kernel
theorem dL_law_249 : decode cL_law 249 = .ok (.iadd, 1) := by decide +kernel
theorem dL_law_250 : decode cL_law 250 = .ok (.iaload, 1) := by decide +kernel
theorem dL_law_251 : decode cL_law 251 = .ok (.aload_n 0, 1) := by decide +kernel
theorem dL_law_252 : decode cL_law 252 = .ok (.iload 4, 2) := by decide +kernel
theorem dL_law_254 : decode cL_law 254 = .ok (.iconst 5, 1) := by decide +kernel
theorem dL_law_255 : decode cL_law 255 = .ok (.iadd, 1) := by decide +kernel
theorem dL_law_256 : decode cL_law 256 = .ok (.iaload, 1) := by decide +kernel
theorem dL_law_257 : decode cL_law 257 = .ok (.invokevirtual 113, 3) := by decide +kernel
theorem dL_law_260 : decode cL_law 260 = .ok (.if_icmp .eq 1848, 3) := by decide +kernel
theorem dL_law_263 : decode cL_law 263 = .ok (.iconst 0, 1) := by decide +kernel
theorem dL_law_264 : decode cL_law 264 = .ok (.ireturn, 1) := by decide +kernel
theorem dL_law_265 : decode cL_law 265 = .ok (.aload_n 1, 1) := by decide +kernel
theorem dL_law_266 : decode cL_law 266 = .ok (.aload_n 0, 1) := by decide +kernel
theorem dL_law_267 : decode cL_law 267 = .ok (.iload 4, 2) := by decide +kernel
theorem dL_law_269 : decode cL_law 269 = .ok (.iconst 1, 1) := by decide +kernel
theorem dL_law_270 : decode cL_law 270 = .ok (.iadd, 1) := by decide +kernel
theorem dL_law_271 : decode cL_law 271 = .ok (.iaload, 1) := by decide +kernel
theorem dL_law_272 : decode cL_law 272 = .ok (.aload_n 3, 1) := by decide +kernel
theorem dL_law_273 : decode cL_law 273 = .ok (.invokestatic 114, 3) := by decide +kernel
theorem dL_law_276 : decode cL_law 276 = .ok (.istore 5, 2) := by decide +kernel
theorem dL_law_278 : decode cL_law 278 = .ok (.aload_n 2, 1) := by decide +kernel
theorem dL_law_279 : decode cL_law 279 = .ok (.aload_n 0, 1) := by decide +kernel
theorem dL_law_280 : decode cL_law 280 = .ok (.iload 4, 2) := by decide +kernel
theorem dL_law_282 : decode cL_law 282 = .ok (.iconst 1, 1) := by decide +kernel
theorem dL_law_283 : decode cL_law 283 = .ok (.iadd, 1) := by decide +kernel
theorem dL_law_284 : decode cL_law 284 = .ok (.iaload, 1) := by decide +kernel
theorem dL_law_285 : decode cL_law 285 = .ok (.invokevirtual 119, 3) := by decide +kernel
theorem dL_law_288 : decode cL_law 288 = .ok (.istore 6, 2) := by decide +kernel
theorem dL_law_290 : decode cL_law 290 = .ok (.aload_n 2, 1) := by decide +kernel
theorem dL_law_291 : decode cL_law 291 = .ok (.invokevirtual 120, 3) := by decide +kernel
theorem dL_law_294 : decode cL_law 294 = .ok (.iload 5, 2) := by decide +kernel
theorem dL_law_296 : decode cL_law 296 = .ok (.if_icmp .eq 5, 3) := by decide +kernel
theorem dL_law_299 : decode cL_law 299 = .ok (.iconst 0, 1) := by decide +kernel
theorem dL_law_300 : decode cL_law 300 = .ok (.ireturn, 1) := by decide +kernel
theorem dL_law_301 : decode cL_law 301 = .ok (.iload 5, 2) := by decide +kernel
theorem dL_law_303 : decode cL_law 303 = .ok (.ifCond .ne 15, 3) := by decide +kernel
theorem dL_law_306 : decode cL_law 306 = .ok (.aload_n 3, 1) := by decide +kernel
theorem dL_law_307 : decode cL_law 307 = .ok (.iconst 0, 1) := by decide +kernel
theorem dL_law_308 : decode cL_law 308 = .ok (.laload, 1) := by decide +kernel
theorem dL_law_309 : decode cL_law 309 = .ok (.iload 6, 2) := by decide +kernel
theorem dL_law_311 : decode cL_law 311 = .ok (.i2l, 1) := by decide +kernel
theorem dL_law_312 : decode cL_law 312 = .ok (.lcmp, 1) := by decide +kernel
theorem dL_law_313 : decode cL_law 313 = .ok (.ifCond .eq 5, 3) := by decide +kernel
theorem dL_law_316 : decode cL_law 316 = .ok (.iconst 0, 1) := by decide +kernel
theorem dL_law_317 : decode cL_law 317 = .ok (.ireturn, 1) := by decide +kernel
theorem dL_law_318 : decode cL_law 318 = .ok (.goto 1790, 3) := by decide +kernel
theorem dL_law_321 : decode cL_law 321 = .ok (.aload_n 1, 1) := by decide +kernel
theorem dL_law_322 : decode cL_law 322 = .ok (.invokevirtual 124, 3) := by decide +kernel
theorem dL_law_325 : decode cL_law 325 = .ok (.aload_n 2, 1) := by decide +kernel
theorem dL_law_326 : decode cL_law 326 = .ok (.invokevirtual 127, 3) := by decide +kernel
theorem dL_law_329 : decode cL_law 329 = .ok (.if_icmp .eq 1779, 3) := by decide +kernel
theorem dL_law_332 : decode cL_law 332 = .ok (.iconst 0, 1) := by decide +kernel
theorem dL_law_333 : decode cL_law 333 = .ok (.ireturn, 1) := by decide +kernel
theorem dL_law_334 : decode cL_law 334 = .ok (.aload_n 1, 1) := by decide +kernel
theorem dL_law_335 : decode cL_law 335 = .ok (.invokevirtual 128, 3) := by decide +kernel
theorem dL_law_338 : decode cL_law 338 = .ok (.aload_n 2, 1) := by decide +kernel
theorem dL_law_339 : decode cL_law 339 = .ok (.invokevirtual 131, 3) := by decide +kernel
theorem dL_law_342 : decode cL_law 342 = .ok (.if_icmp .eq 1766, 3) := by decide +kernel
theorem dL_law_345 : decode cL_law 345 = .ok (.iconst 0, 1) := by decide +kernel
theorem dL_law_346 : decode cL_law 346 = .ok (.ireturn, 1) := by decide +kernel
theorem dL_law_347 : decode cL_law 347 = .ok (.aload_n 1, 1) := by decide +kernel
theorem dL_law_348 : decode cL_law 348 = .ok (.invokevirtual 132, 3) := by decide +kernel
theorem dL_law_351 : decode cL_law 351 = .ok (.aload_n 2, 1) := by decide +kernel
theorem dL_law_352 : decode cL_law 352 = .ok (.invokevirtual 135, 3) := by decide +kernel
theorem dL_law_355 : decode cL_law 355 = .ok (.if_icmp .eq 1753, 3) := by decide +kernel
theorem dL_law_358 : decode cL_law 358 = .ok (.iconst 0, 1) := by decide +kernel
theorem dL_law_359 : decode cL_law 359 = .ok (.ireturn, 1) := by decide +kernel
theorem dL_law_360 : decode cL_law 360 = .ok (.aload_n 1, 1) := by decide +kernel
theorem dL_law_361 : decode cL_law 361 = .ok (.aload_n 0, 1) := by decide +kernel
theorem dL_law_362 : decode cL_law 362 = .ok (.iload 4, 2) := by decide +kernel
theorem dL_law_364 : decode cL_law 364 = .ok (.iconst 1, 1) := by decide +kernel
theorem dL_law_365 : decode cL_law 365 = .ok (.iadd, 1) := by decide +kernel
theorem dL_law_366 : decode cL_law 366 = .ok (.iaload, 1) := by decide +kernel
theorem dL_law_367 : decode cL_law 367 = .ok (.aload_n 0, 1) := by decide +kernel
theorem dL_law_368 : decode cL_law 368 = .ok (.iload 4, 2) := by decide +kernel
theorem dL_law_370 : decode cL_law 370 = .ok (.iconst 2, 1) := by decide +kernel
theorem dL_law_371 : decode cL_law 371 = .ok (.iadd, 1) := by decide +kernel
theorem dL_law_372 : decode cL_law 372 = .ok (.iaload, 1) := by decide +kernel
theorem dL_law_373 : decode cL_law 373 = .ok (.aload_n 3, 1) := by decide +kernel
theorem dL_law_374 : decode cL_law 374 = .ok (.invokestatic 136, 3) := by decide +kernel
theorem dL_law_377 : decode cL_law 377 = .ok (.istore 5, 2) := by decide +kernel
theorem dL_law_379 : decode cL_law 379 = .ok (.aload_n 2, 1) := by decide +kernel
theorem dL_law_380 : decode cL_law 380 = .ok (.aload_n 0, 1) := by decide +kernel
theorem dL_law_381 : decode cL_law 381 = .ok (.iload 4, 2) := by decide +kernel
theorem dL_law_383 : decode cL_law 383 = .ok (.iconst 1, 1) := by decide +kernel
theorem dL_law_384 : decode cL_law 384 = .ok (.iadd, 1) := by decide +kernel
theorem dL_law_385 : decode cL_law 385 = .ok (.iaload, 1) := by decide +kernel
theorem dL_law_386 : decode cL_law 386 = .ok (.aload_n 0, 1) := by decide +kernel
theorem dL_law_387 : decode cL_law 387 = .ok (.iload 4, 2) := by decide +kernel
theorem dL_law_389 : decode cL_law 389 = .ok (.iconst 2, 1) := by decide +kernel
theorem dL_law_390 : decode cL_law 390 = .ok (.iadd, 1) := by decide +kernel
theorem dL_law_391 : decode cL_law 391 = .ok (.iaload, 1) := by decide +kernel
theorem dL_law_392 : decode cL_law 392 = .ok (.invokevirtual 139, 3) := by decide +kernel
theorem dL_law_395 : decode cL_law 395 = .ok (.istore 6, 2) := by decide +kernel
theorem dL_law_397 : decode cL_law 397 = .ok (.aload_n 2, 1) := by decide +kernel
theorem dL_law_398 : decode cL_law 398 = .ok (.invokevirtual 120, 3) := by decide +kernel
theorem dL_law_401 : decode cL_law 401 = .ok (.iload 5, 2) := by decide +kernel
theorem dL_law_403 : decode cL_law 403 = .ok (.if_icmp .eq 5, 3) := by decide +kernel
theorem dL_law_406 : decode cL_law 406 = .ok (.iconst 0, 1) := by decide +kernel
theorem dL_law_407 : decode cL_law 407 = .ok (.ireturn, 1) := by decide +kernel
theorem dL_law_408 : decode cL_law 408 = .ok (.iload 5, 2) := by decide +kernel
theorem dL_law_410 : decode cL_law 410 = .ok (.ifCond .ne 22, 3) := by decide +kernel
theorem dL_law_413 : decode cL_law 413 = .ok (.aload_n 3, 1) := by decide +kernel
theorem dL_law_414 : decode cL_law 414 = .ok (.iconst 0, 1) := by decide +kernel
theorem dL_law_415 : decode cL_law 415 = .ok (.laload, 1) := by decide +kernel
theorem dL_law_416 : decode cL_law 416 = .ok (.iload 6, 2) := by decide +kernel
theorem dL_law_418 : decode cL_law 418 = .ok (.ifCond .eq 7, 3) := by decide +kernel
theorem dL_law_421 : decode cL_law 421 = .ok (.lconst 1, 1) := by decide +kernel
theorem dL_law_422 : decode cL_law 422 = .ok (.goto 4, 3) := by decide +kernel
theorem dL_law_425 : decode cL_law 425 = .ok (.lconst 0, 1) := by decide +kernel
theorem dL_law_426 : decode cL_law 426 = .ok (.lcmp, 1) := by decide +kernel
theorem dL_law_427 : decode cL_law 427 = .ok (.ifCond .eq 5, 3) := by decide +kernel
theorem dL_law_430 : decode cL_law 430 = .ok (.iconst 0, 1) := by decide +kernel
theorem dL_law_431 : decode cL_law 431 = .ok (.ireturn, 1) := by decide +kernel
theorem dL_law_432 : decode cL_law 432 = .ok (.goto 1676, 3) := by decide +kernel
theorem dL_law_435 : decode cL_law 435 = .ok (.aload_n 1, 1) := by decide +kernel
theorem dL_law_436 : decode cL_law 436 = .ok (.aload_n 0, 1) := by decide +kernel
theorem dL_law_437 : decode cL_law 437 = .ok (.iload 4, 2) := by decide +kernel
theorem dL_law_439 : decode cL_law 439 = .ok (.iconst 1, 1) := by decide +kernel
theorem dL_law_440 : decode cL_law 440 = .ok (.iadd, 1) := by decide +kernel
theorem dL_law_441 : decode cL_law 441 = .ok (.iaload, 1) := by decide +kernel
theorem dL_law_442 : decode cL_law 442 = .ok (.aload_n 0, 1) := by decide +kernel
theorem dL_law_443 : decode cL_law 443 = .ok (.iload 4, 2) := by decide +kernel
theorem dL_law_445 : decode cL_law 445 = .ok (.iconst 2, 1) := by decide +kernel
theorem dL_law_446 : decode cL_law 446 = .ok (.iadd, 1) := by decide +kernel
theorem dL_law_447 : decode cL_law 447 = .ok (.iaload, 1) := by decide +kernel
theorem dL_law_448 : decode cL_law 448 = .ok (.aload_n 3, 1) := by decide +kernel
theorem dL_law_449 : decode cL_law 449 = .ok (.invokestatic 140, 3) := by decide +kernel
theorem dL_law_452 : decode cL_law 452 = .ok (.istore 5, 2) := by decide +kernel
theorem dL_law_454 : decode cL_law 454 = .ok (.aload_n 2, 1) := by decide +kernel
theorem dL_law_455 : decode cL_law 455 = .ok (.aload_n 0, 1) := by decide +kernel
theorem dL_law_456 : decode cL_law 456 = .ok (.iload 4, 2) := by decide +kernel
theorem dL_law_458 : decode cL_law 458 = .ok (.iconst 1, 1) := by decide +kernel
theorem dL_law_459 : decode cL_law 459 = .ok (.iadd, 1) := by decide +kernel
theorem dL_law_460 : decode cL_law 460 = .ok (.iaload, 1) := by decide +kernel
theorem dL_law_461 : decode cL_law 461 = .ok (.aload_n 0, 1) := by decide +kernel
theorem dL_law_462 : decode cL_law 462 = .ok (.iload 4, 2) := by decide +kernel
theorem dL_law_464 : decode cL_law 464 = .ok (.iconst 2, 1) := by decide +kernel
theorem dL_law_465 : decode cL_law 465 = .ok (.iadd, 1) := by decide +kernel
theorem dL_law_466 : decode cL_law 466 = .ok (.iaload, 1) := by decide +kernel
theorem dL_law_467 : decode cL_law 467 = .ok (.invokevirtual 142, 3) := by decide +kernel
theorem dL_law_470 : decode cL_law 470 = .ok (.istore 6, 2) := by decide +kernel
theorem dL_law_472 : decode cL_law 472 = .ok (.aload_n 2, 1) := by decide +kernel
theorem dL_law_473 : decode cL_law 473 = .ok (.invokevirtual 120, 3) := by decide +kernel
theorem dL_law_476 : decode cL_law 476 = .ok (.iload 5, 2) := by decide +kernel
theorem dL_law_478 : decode cL_law 478 = .ok (.if_icmp .eq 5, 3) := by decide +kernel
theorem dL_law_481 : decode cL_law 481 = .ok (.iconst 0, 1) := by decide +kernel
theorem dL_law_482 : decode cL_law 482 = .ok (.ireturn, 1) := by decide +kernel
theorem dL_law_483 : decode cL_law 483 = .ok (.iload 5, 2) := by decide +kernel
theorem dL_law_485 : decode cL_law 485 = .ok (.ifCond .ne 15, 3) := by decide +kernel
theorem dL_law_488 : decode cL_law 488 = .ok (.aload_n 3, 1) := by decide +kernel
theorem dL_law_489 : decode cL_law 489 = .ok (.iconst 0, 1) := by decide +kernel
theorem dL_law_490 : decode cL_law 490 = .ok (.laload, 1) := by decide +kernel
theorem dL_law_491 : decode cL_law 491 = .ok (.iload 6, 2) := by decide +kernel
theorem dL_law_493 : decode cL_law 493 = .ok (.i2l, 1) := by decide +kernel
theorem dL_law_494 : decode cL_law 494 = .ok (.lcmp, 1) := by decide +kernel
theorem dL_law_495 : decode cL_law 495 = .ok (.ifCond .eq 5, 3) := by decide +kernel
theorem dL_law_498 : decode cL_law 498 = .ok (.iconst 0, 1) := by decide +kernel
theorem dL_law_499 : decode cL_law 499 = .ok (.ireturn, 1) := by decide +kernel
theorem dL_law_500 : decode cL_law 500 = .ok (.goto 1608, 3) := by decide +kernel
theorem dL_law_503 : decode cL_law 503 = .ok (.aload_n 1, 1) := by decide +kernel
theorem dL_law_504 : decode cL_law 504 = .ok (.aload_n 0, 1) := by decide +kernel
theorem dL_law_505 : decode cL_law 505 = .ok (.iload 4, 2) := by decide +kernel
theorem dL_law_507 : decode cL_law 507 = .ok (.iconst 1, 1) := by decide +kernel
theorem dL_law_508 : decode cL_law 508 = .ok (.iadd, 1) := by decide +kernel
theorem dL_law_509 : decode cL_law 509 = .ok (.iaload, 1) := by decide +kernel
theorem dL_law_510 : decode cL_law 510 = .ok (.aload_n 0, 1) := by decide +kernel
theorem dL_law_511 : decode cL_law 511 = .ok (.iload 4, 2) := by decide +kernel
theorem dL_law_513 : decode cL_law 513 = .ok (.iconst 2, 1) := by decide +kernel
theorem dL_law_514 : decode cL_law 514 = .ok (.iadd, 1) := by decide +kernel
theorem dL_law_515 : decode cL_law 515 = .ok (.iaload, 1) := by decide +kernel
theorem dL_law_516 : decode cL_law 516 = .ok (.aload_n 3, 1) := by decide +kernel
theorem dL_law_517 : decode cL_law 517 = .ok (.invokestatic 143, 3) := by decide +kernel
theorem dL_law_520 : decode cL_law 520 = .ok (.istore 5, 2) := by decide +kernel
theorem dL_law_522 : decode cL_law 522 = .ok (.aload_n 2, 1) := by decide +kernel
theorem dL_law_523 : decode cL_law 523 = .ok (.aload_n 0, 1) := by decide +kernel
theorem dL_law_524 : decode cL_law 524 = .ok (.iload 4, 2) := by decide +kernel
theorem dL_law_526 : decode cL_law 526 = .ok (.iconst 1, 1) := by decide +kernel
theorem dL_law_527 : decode cL_law 527 = .ok (.iadd, 1) := by decide +kernel
theorem dL_law_528 : decode cL_law 528 = .ok (.iaload, 1) := by decide +kernel
theorem dL_law_529 : decode cL_law 529 = .ok (.aload_n 0, 1) := by decide +kernel
theorem dL_law_530 : decode cL_law 530 = .ok (.iload 4, 2) := by decide +kernel
theorem dL_law_532 : decode cL_law 532 = .ok (.iconst 2, 1) := by decide +kernel
theorem dL_law_533 : decode cL_law 533 = .ok (.iadd, 1) := by decide +kernel
theorem dL_law_534 : decode cL_law 534 = .ok (.iaload, 1) := by decide +kernel
theorem dL_law_535 : decode cL_law 535 = .ok (.invokevirtual 145, 3) := by decide +kernel
theorem dL_law_538 : decode cL_law 538 = .ok (.istore 6, 2) := by decide +kernel
theorem dL_law_540 : decode cL_law 540 = .ok (.aload_n 2, 1) := by decide +kernel
theorem dL_law_541 : decode cL_law 541 = .ok (.invokevirtual 120, 3) := by decide +kernel
theorem dL_law_544 : decode cL_law 544 = .ok (.iload 5, 2) := by decide +kernel
theorem dL_law_546 : decode cL_law 546 = .ok (.if_icmp .eq 5, 3) := by decide +kernel
theorem dL_law_549 : decode cL_law 549 = .ok (.iconst 0, 1) := by decide +kernel
theorem dL_law_550 : decode cL_law 550 = .ok (.ireturn, 1) := by decide +kernel
theorem dL_law_551 : decode cL_law 551 = .ok (.iload 5, 2) := by decide +kernel
theorem dL_law_553 : decode cL_law 553 = .ok (.ifCond .ne 15, 3) := by decide +kernel
theorem dL_law_556 : decode cL_law 556 = .ok (.aload_n 3, 1) := by decide +kernel
theorem dL_law_557 : decode cL_law 557 = .ok (.iconst 0, 1) := by decide +kernel
theorem dL_law_558 : decode cL_law 558 = .ok (.laload, 1) := by decide +kernel
theorem dL_law_559 : decode cL_law 559 = .ok (.iload 6, 2) := by decide +kernel
theorem dL_law_561 : decode cL_law 561 = .ok (.i2l, 1) := by decide +kernel
theorem dL_law_562 : decode cL_law 562 = .ok (.lcmp, 1) := by decide +kernel
theorem dL_law_563 : decode cL_law 563 = .ok (.ifCond .eq 5, 3) := by decide +kernel
theorem dL_law_566 : decode cL_law 566 = .ok (.iconst 0, 1) := by decide +kernel
theorem dL_law_567 : decode cL_law 567 = .ok (.ireturn, 1) := by decide +kernel
theorem dL_law_568 : decode cL_law 568 = .ok (.goto 1540, 3) := by decide +kernel
theorem dL_law_571 : decode cL_law 571 = .ok (.aload_n 1, 1) := by decide +kernel
theorem dL_law_572 : decode cL_law 572 = .ok (.aload_n 0, 1) := by decide +kernel
theorem dL_law_573 : decode cL_law 573 = .ok (.iload 4, 2) := by decide +kernel
theorem dL_law_575 : decode cL_law 575 = .ok (.iconst 1, 1) := by decide +kernel
theorem dL_law_576 : decode cL_law 576 = .ok (.iadd, 1) := by decide +kernel
theorem dL_law_577 : decode cL_law 577 = .ok (.iaload, 1) := by decide +kernel
theorem dL_law_578 : decode cL_law 578 = .ok (.aload_n 0, 1) := by decide +kernel
theorem dL_law_579 : decode cL_law 579 = .ok (.iload 4, 2) := by decide +kernel
theorem dL_law_581 : decode cL_law 581 = .ok (.iconst 2, 1) := by decide +kernel
theorem dL_law_582 : decode cL_law 582 = .ok (.iadd, 1) := by decide +kernel
theorem dL_law_583 : decode cL_law 583 = .ok (.iaload, 1) := by decide +kernel
theorem dL_law_584 : decode cL_law 584 = .ok (.aload_n 3, 1) := by decide +kernel
theorem dL_law_585 : decode cL_law 585 = .ok (.invokestatic 146, 3) := by decide +kernel
theorem dL_law_588 : decode cL_law 588 = .ok (.istore 5, 2) := by decide +kernel
theorem dL_law_590 : decode cL_law 590 = .ok (.aload_n 2, 1) := by decide +kernel
theorem dL_law_591 : decode cL_law 591 = .ok (.aload_n 0, 1) := by decide +kernel
theorem dL_law_592 : decode cL_law 592 = .ok (.iload 4, 2) := by decide +kernel
theorem dL_law_594 : decode cL_law 594 = .ok (.iconst 1, 1) := by decide +kernel
theorem dL_law_595 : decode cL_law 595 = .ok (.iadd, 1) := by decide +kernel
theorem dL_law_596 : decode cL_law 596 = .ok (.iaload, 1) := by decide +kernel
theorem dL_law_597 : decode cL_law 597 = .ok (.aload_n 0, 1) := by decide +kernel
theorem dL_law_598 : decode cL_law 598 = .ok (.iload 4, 2) := by decide +kernel
theorem dL_law_600 : decode cL_law 600 = .ok (.iconst 2, 1) := by decide +kernel
theorem dL_law_601 : decode cL_law 601 = .ok (.iadd, 1) := by decide +kernel
theorem dL_law_602 : decode cL_law 602 = .ok (.iaload, 1) := by decide +kernel
theorem dL_law_603 : decode cL_law 603 = .ok (.invokevirtual 148, 3) := by decide +kernel
theorem dL_law_606 : decode cL_law 606 = .ok (.istore 6, 2) := by decide +kernel
theorem dL_law_608 : decode cL_law 608 = .ok (.aload_n 2, 1) := by decide +kernel
theorem dL_law_609 : decode cL_law 609 = .ok (.invokevirtual 120, 3) := by decide +kernel
theorem dL_law_612 : decode cL_law 612 = .ok (.iload 5, 2) := by decide +kernel
theorem dL_law_614 : decode cL_law 614 = .ok (.if_icmp .eq 5, 3) := by decide +kernel
theorem dL_law_617 : decode cL_law 617 = .ok (.iconst 0, 1) := by decide +kernel
theorem dL_law_618 : decode cL_law 618 = .ok (.ireturn, 1) := by decide +kernel
theorem dL_law_619 : decode cL_law 619 = .ok (.iload 5, 2) := by decide +kernel
theorem dL_law_621 : decode cL_law 621 = .ok (.ifCond .ne 15, 3) := by decide +kernel
theorem dL_law_624 : decode cL_law 624 = .ok (.aload_n 3, 1) := by decide +kernel
theorem dL_law_625 : decode cL_law 625 = .ok (.iconst 0, 1) := by decide +kernel
theorem dL_law_626 : decode cL_law 626 = .ok (.laload, 1) := by decide +kernel
theorem dL_law_627 : decode cL_law 627 = .ok (.iload 6, 2) := by decide +kernel
theorem dL_law_629 : decode cL_law 629 = .ok (.i2l, 1) := by decide +kernel
theorem dL_law_630 : decode cL_law 630 = .ok (.lcmp, 1) := by decide +kernel
theorem dL_law_631 : decode cL_law 631 = .ok (.ifCond .eq 5, 3) := by decide +kernel
theorem dL_law_634 : decode cL_law 634 = .ok (.iconst 0, 1) := by decide +kernel
theorem dL_law_635 : decode cL_law 635 = .ok (.ireturn, 1) := by decide +kernel
theorem dL_law_636 : decode cL_law 636 = .ok (.goto 1472, 3) := by decide +kernel
theorem dL_law_639 : decode cL_law 639 = .ok (.aload_n 1, 1) := by decide +kernel
theorem dL_law_640 : decode cL_law 640 = .ok (.aload_n 0, 1) := by decide +kernel
theorem dL_law_641 : decode cL_law 641 = .ok (.iload 4, 2) := by decide +kernel
theorem dL_law_643 : decode cL_law 643 = .ok (.iconst 1, 1) := by decide +kernel
theorem dL_law_644 : decode cL_law 644 = .ok (.iadd, 1) := by decide +kernel
theorem dL_law_645 : decode cL_law 645 = .ok (.iaload, 1) := by decide +kernel
theorem dL_law_646 : decode cL_law 646 = .ok (.aload_n 3, 1) := by decide +kernel
theorem dL_law_647 : decode cL_law 647 = .ok (.invokestatic 149, 3) := by decide +kernel
theorem dL_law_650 : decode cL_law 650 = .ok (.istore 5, 2) := by decide +kernel
theorem dL_law_652 : decode cL_law 652 = .ok (.aload_n 2, 1) := by decide +kernel
theorem dL_law_653 : decode cL_law 653 = .ok (.aload_n 0, 1) := by decide +kernel
theorem dL_law_654 : decode cL_law 654 = .ok (.iload 4, 2) := by decide +kernel
theorem dL_law_656 : decode cL_law 656 = .ok (.iconst 1, 1) := by decide +kernel
theorem dL_law_657 : decode cL_law 657 = .ok (.iadd, 1) := by decide +kernel
theorem dL_law_658 : decode cL_law 658 = .ok (.iaload, 1) := by decide +kernel
theorem dL_law_659 : decode cL_law 659 = .ok (.invokevirtual 151, 3) := by decide +kernel
theorem dL_law_662 : decode cL_law 662 = .ok (.istore 6, 2) := by decide +kernel
theorem dL_law_664 : decode cL_law 664 = .ok (.aload_n 2, 1) := by decide +kernel
theorem dL_law_665 : decode cL_law 665 = .ok (.invokevirtual 120, 3) := by decide +kernel
theorem dL_law_668 : decode cL_law 668 = .ok (.iload 5, 2) := by decide +kernel
theorem dL_law_670 : decode cL_law 670 = .ok (.if_icmp .eq 5, 3) := by decide +kernel
theorem dL_law_673 : decode cL_law 673 = .ok (.iconst 0, 1) := by decide +kernel
theorem dL_law_674 : decode cL_law 674 = .ok (.ireturn, 1) := by decide +kernel
theorem dL_law_675 : decode cL_law 675 = .ok (.iload 5, 2) := by decide +kernel
theorem dL_law_677 : decode cL_law 677 = .ok (.ifCond .ne 15, 3) := by decide +kernel
theorem dL_law_680 : decode cL_law 680 = .ok (.aload_n 3, 1) := by decide +kernel
theorem dL_law_681 : decode cL_law 681 = .ok (.iconst 0, 1) := by decide +kernel
theorem dL_law_682 : decode cL_law 682 = .ok (.laload, 1) := by decide +kernel
theorem dL_law_683 : decode cL_law 683 = .ok (.iload 6, 2) := by decide +kernel
theorem dL_law_685 : decode cL_law 685 = .ok (.i2l, 1) := by decide +kernel
theorem dL_law_686 : decode cL_law 686 = .ok (.lcmp, 1) := by decide +kernel
theorem dL_law_687 : decode cL_law 687 = .ok (.ifCond .eq 5, 3) := by decide +kernel
theorem dL_law_690 : decode cL_law 690 = .ok (.iconst 0, 1) := by decide +kernel
theorem dL_law_691 : decode cL_law 691 = .ok (.ireturn, 1) := by decide +kernel
theorem dL_law_692 : decode cL_law 692 = .ok (.goto 1416, 3) := by decide +kernel
theorem dL_law_695 : decode cL_law 695 = .ok (.aload_n 1, 1) := by decide +kernel
theorem dL_law_696 : decode cL_law 696 = .ok (.aload_n 0, 1) := by decide +kernel
theorem dL_law_697 : decode cL_law 697 = .ok (.iload 4, 2) := by decide +kernel
theorem dL_law_699 : decode cL_law 699 = .ok (.iconst 1, 1) := by decide +kernel
theorem dL_law_700 : decode cL_law 700 = .ok (.iadd, 1) := by decide +kernel
theorem dL_law_701 : decode cL_law 701 = .ok (.iaload, 1) := by decide +kernel
theorem dL_law_702 : decode cL_law 702 = .ok (.aload_n 0, 1) := by decide +kernel
theorem dL_law_703 : decode cL_law 703 = .ok (.iload 4, 2) := by decide +kernel
theorem dL_law_705 : decode cL_law 705 = .ok (.iconst 2, 1) := by decide +kernel
theorem dL_law_706 : decode cL_law 706 = .ok (.iadd, 1) := by decide +kernel
theorem dL_law_707 : decode cL_law 707 = .ok (.iaload, 1) := by decide +kernel
theorem dL_law_708 : decode cL_law 708 = .ok (.aload_n 3, 1) := by decide +kernel
theorem dL_law_709 : decode cL_law 709 = .ok (.invokestatic 152, 3) := by decide +kernel
theorem dL_law_712 : decode cL_law 712 = .ok (.istore 5, 2) := by decide +kernel
theorem dL_law_714 : decode cL_law 714 = .ok (.aload_n 2, 1) := by decide +kernel
theorem dL_law_715 : decode cL_law 715 = .ok (.aload_n 0, 1) := by decide +kernel
theorem dL_law_716 : decode cL_law 716 = .ok (.iload 4, 2) := by decide +kernel
theorem dL_law_718 : decode cL_law 718 = .ok (.iconst 1, 1) := by decide +kernel
theorem dL_law_719 : decode cL_law 719 = .ok (.iadd, 1) := by decide +kernel
theorem dL_law_720 : decode cL_law 720 = .ok (.iaload, 1) := by decide +kernel
theorem dL_law_721 : decode cL_law 721 = .ok (.aload_n 0, 1) := by decide +kernel
theorem dL_law_722 : decode cL_law 722 = .ok (.iload 4, 2) := by decide +kernel
theorem dL_law_724 : decode cL_law 724 = .ok (.iconst 2, 1) := by decide +kernel
theorem dL_law_725 : decode cL_law 725 = .ok (.iadd, 1) := by decide +kernel
theorem dL_law_726 : decode cL_law 726 = .ok (.iaload, 1) := by decide +kernel
theorem dL_law_727 : decode cL_law 727 = .ok (.invokevirtual 154, 3) := by decide +kernel
theorem dL_law_730 : decode cL_law 730 = .ok (.istore 6, 2) := by decide +kernel
theorem dL_law_732 : decode cL_law 732 = .ok (.aload_n 2, 1) := by decide +kernel
theorem dL_law_733 : decode cL_law 733 = .ok (.invokevirtual 120, 3) := by decide +kernel
theorem dL_law_736 : decode cL_law 736 = .ok (.iload 5, 2) := by decide +kernel
theorem dL_law_738 : decode cL_law 738 = .ok (.if_icmp .eq 5, 3) := by decide +kernel
theorem dL_law_741 : decode cL_law 741 = .ok (.iconst 0, 1) := by decide +kernel
theorem dL_law_742 : decode cL_law 742 = .ok (.ireturn, 1) := by decide +kernel
theorem dL_law_743 : decode cL_law 743 = .ok (.iload 5, 2) := by decide +kernel
theorem dL_law_745 : decode cL_law 745 = .ok (.ifCond .ne 15, 3) := by decide +kernel
theorem dL_law_748 : decode cL_law 748 = .ok (.aload_n 3, 1) := by decide +kernel
theorem dL_law_749 : decode cL_law 749 = .ok (.iconst 0, 1) := by decide +kernel
theorem dL_law_750 : decode cL_law 750 = .ok (.laload, 1) := by decide +kernel
theorem dL_law_751 : decode cL_law 751 = .ok (.iload 6, 2) := by decide +kernel
theorem dL_law_753 : decode cL_law 753 = .ok (.i2l, 1) := by decide +kernel
theorem dL_law_754 : decode cL_law 754 = .ok (.lcmp, 1) := by decide +kernel
theorem dL_law_755 : decode cL_law 755 = .ok (.ifCond .eq 5, 3) := by decide +kernel
theorem dL_law_758 : decode cL_law 758 = .ok (.iconst 0, 1) := by decide +kernel
theorem dL_law_759 : decode cL_law 759 = .ok (.ireturn, 1) := by decide +kernel
theorem dL_law_760 : decode cL_law 760 = .ok (.goto 1348, 3) := by decide +kernel
theorem dL_law_763 : decode cL_law 763 = .ok (.aload_n 1, 1) := by decide +kernel
theorem dL_law_764 : decode cL_law 764 = .ok (.aload_n 0, 1) := by decide +kernel
theorem dL_law_765 : decode cL_law 765 = .ok (.iload 4, 2) := by decide +kernel
theorem dL_law_767 : decode cL_law 767 = .ok (.iconst 1, 1) := by decide +kernel
theorem dL_law_768 : decode cL_law 768 = .ok (.iadd, 1) := by decide +kernel
theorem dL_law_769 : decode cL_law 769 = .ok (.iaload, 1) := by decide +kernel
theorem dL_law_770 : decode cL_law 770 = .ok (.aload_n 0, 1) := by decide +kernel
theorem dL_law_771 : decode cL_law 771 = .ok (.iload 4, 2) := by decide +kernel
theorem dL_law_773 : decode cL_law 773 = .ok (.iconst 2, 1) := by decide +kernel
theorem dL_law_774 : decode cL_law 774 = .ok (.iadd, 1) := by decide +kernel
theorem dL_law_775 : decode cL_law 775 = .ok (.iaload, 1) := by decide +kernel
theorem dL_law_776 : decode cL_law 776 = .ok (.aload_n 0, 1) := by decide +kernel
theorem dL_law_777 : decode cL_law 777 = .ok (.iload 4, 2) := by decide +kernel
theorem dL_law_779 : decode cL_law 779 = .ok (.iconst 3, 1) := by decide +kernel
theorem dL_law_780 : decode cL_law 780 = .ok (.iadd, 1) := by decide +kernel
theorem dL_law_781 : decode cL_law 781 = .ok (.iaload, 1) := by decide +kernel
theorem dL_law_782 : decode cL_law 782 = .ok (.aload_n 3, 1) := by decide +kernel
theorem dL_law_783 : decode cL_law 783 = .ok (.invokestatic 155, 3) := by decide +kernel
theorem dL_law_786 : decode cL_law 786 = .ok (.istore 5, 2) := by decide +kernel
theorem dL_law_788 : decode cL_law 788 = .ok (.aload_n 2, 1) := by decide +kernel
theorem dL_law_789 : decode cL_law 789 = .ok (.aload_n 0, 1) := by decide +kernel
theorem dL_law_790 : decode cL_law 790 = .ok (.iload 4, 2) := by decide +kernel
theorem dL_law_792 : decode cL_law 792 = .ok (.iconst 1, 1) := by decide +kernel
theorem dL_law_793 : decode cL_law 793 = .ok (.iadd, 1) := by decide +kernel
theorem dL_law_794 : decode cL_law 794 = .ok (.iaload, 1) := by decide +kernel
theorem dL_law_795 : decode cL_law 795 = .ok (.aload_n 0, 1) := by decide +kernel
theorem dL_law_796 : decode cL_law 796 = .ok (.iload 4, 2) := by decide +kernel
theorem dL_law_798 : decode cL_law 798 = .ok (.iconst 2, 1) := by decide +kernel
theorem dL_law_799 : decode cL_law 799 = .ok (.iadd, 1) := by decide +kernel
theorem dL_law_800 : decode cL_law 800 = .ok (.iaload, 1) := by decide +kernel
theorem dL_law_801 : decode cL_law 801 = .ok (.aload_n 0, 1) := by decide +kernel
theorem dL_law_802 : decode cL_law 802 = .ok (.iload 4, 2) := by decide +kernel
theorem dL_law_804 : decode cL_law 804 = .ok (.iconst 3, 1) := by decide +kernel
theorem dL_law_805 : decode cL_law 805 = .ok (.iadd, 1) := by decide +kernel
theorem dL_law_806 : decode cL_law 806 = .ok (.iaload, 1) := by decide +kernel
theorem dL_law_807 : decode cL_law 807 = .ok (.invokevirtual 158, 3) := by decide +kernel
theorem dL_law_810 : decode cL_law 810 = .ok (.istore 6, 2) := by decide +kernel
theorem dL_law_812 : decode cL_law 812 = .ok (.aload_n 2, 1) := by decide +kernel
theorem dL_law_813 : decode cL_law 813 = .ok (.invokevirtual 120, 3) := by decide +kernel
theorem dL_law_816 : decode cL_law 816 = .ok (.iload 5, 2) := by decide +kernel
theorem dL_law_818 : decode cL_law 818 = .ok (.if_icmp .eq 5, 3) := by decide +kernel
theorem dL_law_821 : decode cL_law 821 = .ok (.iconst 0, 1) := by decide +kernel
theorem dL_law_822 : decode cL_law 822 = .ok (.ireturn, 1) := by decide +kernel
theorem dL_law_823 : decode cL_law 823 = .ok (.iload 5, 2) := by decide +kernel
theorem dL_law_825 : decode cL_law 825 = .ok (.ifCond .ne 15, 3) := by decide +kernel
theorem dL_law_828 : decode cL_law 828 = .ok (.aload_n 3, 1) := by decide +kernel
theorem dL_law_829 : decode cL_law 829 = .ok (.iconst 0, 1) := by decide +kernel
theorem dL_law_830 : decode cL_law 830 = .ok (.laload, 1) := by decide +kernel
theorem dL_law_831 : decode cL_law 831 = .ok (.iload 6, 2) := by decide +kernel
theorem dL_law_833 : decode cL_law 833 = .ok (.i2l, 1) := by decide +kernel
theorem dL_law_834 : decode cL_law 834 = .ok (.lcmp, 1) := by decide +kernel
theorem dL_law_835 : decode cL_law 835 = .ok (.ifCond .eq 5, 3) := by decide +kernel
theorem dL_law_838 : decode cL_law 838 = .ok (.iconst 0, 1) := by decide +kernel
theorem dL_law_839 : decode cL_law 839 = .ok (.ireturn, 1) := by decide +kernel
theorem dL_law_840 : decode cL_law 840 = .ok (.goto 1268, 3) := by decide +kernel
theorem dL_law_843 : decode cL_law 843 = .ok (.aload_n 1, 1) := by decide +kernel
theorem dL_law_844 : decode cL_law 844 = .ok (.invokevirtual 159, 3) := by decide +kernel
theorem dL_law_847 : decode cL_law 847 = .ok (.aload_n 2, 1) := by decide +kernel
theorem dL_law_848 : decode cL_law 848 = .ok (.invokevirtual 162, 3) := by decide +kernel
theorem dL_law_851 : decode cL_law 851 = .ok (.if_icmp .eq 1257, 3) := by decide +kernel
theorem dL_law_854 : decode cL_law 854 = .ok (.iconst 0, 1) := by decide +kernel
theorem dL_law_855 : decode cL_law 855 = .ok (.ireturn, 1) := by decide +kernel
theorem dL_law_856 : decode cL_law 856 = .ok (.aload_n 1, 1) := by decide +kernel
theorem dL_law_857 : decode cL_law 857 = .ok (.aload_n 0, 1) := by decide +kernel
theorem dL_law_858 : decode cL_law 858 = .ok (.iload 4, 2) := by decide +kernel
theorem dL_law_860 : decode cL_law 860 = .ok (.iconst 1, 1) := by decide +kernel
theorem dL_law_861 : decode cL_law 861 = .ok (.iadd, 1) := by decide +kernel
theorem dL_law_862 : decode cL_law 862 = .ok (.iaload, 1) := by decide +kernel
theorem dL_law_863 : decode cL_law 863 = .ok (.aload_n 0, 1) := by decide +kernel
theorem dL_law_864 : decode cL_law 864 = .ok (.iload 4, 2) := by decide +kernel
theorem dL_law_866 : decode cL_law 866 = .ok (.iconst 2, 1) := by decide +kernel
theorem dL_law_867 : decode cL_law 867 = .ok (.iadd, 1) := by decide +kernel
theorem dL_law_868 : decode cL_law 868 = .ok (.iaload, 1) := by decide +kernel
theorem dL_law_869 : decode cL_law 869 = .ok (.aload_n 3, 1) := by decide +kernel
theorem dL_law_870 : decode cL_law 870 = .ok (.invokestatic 163, 3) := by decide +kernel
theorem dL_law_873 : decode cL_law 873 = .ok (.istore 5, 2) := by decide +kernel
theorem dL_law_875 : decode cL_law 875 = .ok (.aload_n 2, 1) := by decide +kernel
theorem dL_law_876 : decode cL_law 876 = .ok (.aload_n 0, 1) := by decide +kernel
theorem dL_law_877 : decode cL_law 877 = .ok (.iload 4, 2) := by decide +kernel
theorem dL_law_879 : decode cL_law 879 = .ok (.iconst 1, 1) := by decide +kernel
theorem dL_law_880 : decode cL_law 880 = .ok (.iadd, 1) := by decide +kernel
theorem dL_law_881 : decode cL_law 881 = .ok (.iaload, 1) := by decide +kernel
theorem dL_law_882 : decode cL_law 882 = .ok (.aload_n 0, 1) := by decide +kernel
theorem dL_law_883 : decode cL_law 883 = .ok (.iload 4, 2) := by decide +kernel
theorem dL_law_885 : decode cL_law 885 = .ok (.iconst 2, 1) := by decide +kernel
theorem dL_law_886 : decode cL_law 886 = .ok (.iadd, 1) := by decide +kernel
theorem dL_law_887 : decode cL_law 887 = .ok (.iaload, 1) := by decide +kernel
theorem dL_law_888 : decode cL_law 888 = .ok (.invokevirtual 165, 3) := by decide +kernel
theorem dL_law_891 : decode cL_law 891 = .ok (.istore 6, 2) := by decide +kernel
theorem dL_law_893 : decode cL_law 893 = .ok (.aload_n 2, 1) := by decide +kernel
theorem dL_law_894 : decode cL_law 894 = .ok (.invokevirtual 120, 3) := by decide +kernel
theorem dL_law_897 : decode cL_law 897 = .ok (.iload 5, 2) := by decide +kernel
theorem dL_law_899 : decode cL_law 899 = .ok (.if_icmp .eq 5, 3) := by decide +kernel
theorem dL_law_902 : decode cL_law 902 = .ok (.iconst 0, 1) := by decide +kernel
theorem dL_law_903 : decode cL_law 903 = .ok (.ireturn, 1) := by decide +kernel
theorem dL_law_904 : decode cL_law 904 = .ok (.iload 5, 2) := by decide +kernel
theorem dL_law_906 : decode cL_law 906 = .ok (.ifCond .ne 15, 3) := by decide +kernel
theorem dL_law_909 : decode cL_law 909 = .ok (.aload_n 3, 1) := by decide +kernel
theorem dL_law_910 : decode cL_law 910 = .ok (.iconst 0, 1) := by decide +kernel
theorem dL_law_911 : decode cL_law 911 = .ok (.laload, 1) := by decide +kernel
theorem dL_law_912 : decode cL_law 912 = .ok (.iload 6, 2) := by decide +kernel
theorem dL_law_914 : decode cL_law 914 = .ok (.i2l, 1) := by decide +kernel
theorem dL_law_915 : decode cL_law 915 = .ok (.lcmp, 1) := by decide +kernel
theorem dL_law_916 : decode cL_law 916 = .ok (.ifCond .eq 5, 3) := by decide +kernel
theorem dL_law_919 : decode cL_law 919 = .ok (.iconst 0, 1) := by decide +kernel
theorem dL_law_920 : decode cL_law 920 = .ok (.ireturn, 1) := by decide +kernel
theorem dL_law_921 : decode cL_law 921 = .ok (.goto 1187, 3) := by decide +kernel
theorem dL_law_924 : decode cL_law 924 = .ok (.aload_n 1, 1) := by decide +kernel
theorem dL_law_925 : decode cL_law 925 = .ok (.aload_n 0, 1) := by decide +kernel
theorem dL_law_926 : decode cL_law 926 = .ok (.iload 4, 2) := by decide +kernel
theorem dL_law_928 : decode cL_law 928 = .ok (.iconst 1, 1) := by decide +kernel
theorem dL_law_929 : decode cL_law 929 = .ok (.iadd, 1) := by decide +kernel
theorem dL_law_930 : decode cL_law 930 = .ok (.iaload, 1) := by decide +kernel
theorem dL_law_931 : decode cL_law 931 = .ok (.aload_n 3, 1) := by decide +kernel
theorem dL_law_932 : decode cL_law 932 = .ok (.invokestatic 166, 3) := by decide +kernel
theorem dL_law_935 : decode cL_law 935 = .ok (.istore 5, 2) := by decide +kernel
theorem dL_law_937 : decode cL_law 937 = .ok (.aload_n 2, 1) := by decide +kernel
theorem dL_law_938 : decode cL_law 938 = .ok (.aload_n 0, 1) := by decide +kernel
theorem dL_law_939 : decode cL_law 939 = .ok (.iload 4, 2) := by decide +kernel
theorem dL_law_941 : decode cL_law 941 = .ok (.iconst 1, 1) := by decide +kernel
theorem dL_law_942 : decode cL_law 942 = .ok (.iadd, 1) := by decide +kernel
theorem dL_law_943 : decode cL_law 943 = .ok (.iaload, 1) := by decide +kernel
theorem dL_law_944 : decode cL_law 944 = .ok (.invokevirtual 168, 3) := by decide +kernel
theorem dL_law_947 : decode cL_law 947 = .ok (.istore 6, 2) := by decide +kernel
theorem dL_law_949 : decode cL_law 949 = .ok (.aload_n 2, 1) := by decide +kernel
theorem dL_law_950 : decode cL_law 950 = .ok (.invokevirtual 120, 3) := by decide +kernel
theorem dL_law_953 : decode cL_law 953 = .ok (.iload 5, 2) := by decide +kernel
theorem dL_law_955 : decode cL_law 955 = .ok (.if_icmp .eq 5, 3) := by decide +kernel
theorem dL_law_958 : decode cL_law 958 = .ok (.iconst 0, 1) := by decide +kernel
theorem dL_law_959 : decode cL_law 959 = .ok (.ireturn, 1) := by decide +kernel
theorem dL_law_960 : decode cL_law 960 = .ok (.iload 5, 2) := by decide +kernel
theorem dL_law_962 : decode cL_law 962 = .ok (.ifCond .ne 15, 3) := by decide +kernel
theorem dL_law_965 : decode cL_law 965 = .ok (.aload_n 3, 1) := by decide +kernel
theorem dL_law_966 : decode cL_law 966 = .ok (.iconst 0, 1) := by decide +kernel
theorem dL_law_967 : decode cL_law 967 = .ok (.laload, 1) := by decide +kernel
theorem dL_law_968 : decode cL_law 968 = .ok (.iload 6, 2) := by decide +kernel
theorem dL_law_970 : decode cL_law 970 = .ok (.i2l, 1) := by decide +kernel
theorem dL_law_971 : decode cL_law 971 = .ok (.lcmp, 1) := by decide +kernel
theorem dL_law_972 : decode cL_law 972 = .ok (.ifCond .eq 5, 3) := by decide +kernel
theorem dL_law_975 : decode cL_law 975 = .ok (.iconst 0, 1) := by decide +kernel
theorem dL_law_976 : decode cL_law 976 = .ok (.ireturn, 1) := by decide +kernel
theorem dL_law_977 : decode cL_law 977 = .ok (.goto 1131, 3) := by decide +kernel
theorem dL_law_980 : decode cL_law 980 = .ok (.aload_n 1, 1) := by decide +kernel
theorem dL_law_981 : decode cL_law 981 = .ok (.aload_n 0, 1) := by decide +kernel
theorem dL_law_982 : decode cL_law 982 = .ok (.iload 4, 2) := by decide +kernel
theorem dL_law_984 : decode cL_law 984 = .ok (.iconst 1, 1) := by decide +kernel
theorem dL_law_985 : decode cL_law 985 = .ok (.iadd, 1) := by decide +kernel
theorem dL_law_986 : decode cL_law 986 = .ok (.iaload, 1) := by decide +kernel
theorem dL_law_987 : decode cL_law 987 = .ok (.aload_n 3, 1) := by decide +kernel
theorem dL_law_988 : decode cL_law 988 = .ok (.invokestatic 169, 3) := by decide +kernel
theorem dL_law_991 : decode cL_law 991 = .ok (.istore 5, 2) := by decide +kernel
theorem dL_law_993 : decode cL_law 993 = .ok (.aload_n 2, 1) := by decide +kernel
theorem dL_law_994 : decode cL_law 994 = .ok (.aload_n 0, 1) := by decide +kernel
theorem dL_law_995 : decode cL_law 995 = .ok (.iload 4, 2) := by decide +kernel
theorem dL_law_997 : decode cL_law 997 = .ok (.iconst 1, 1) := by decide +kernel
theorem dL_law_998 : decode cL_law 998 = .ok (.iadd, 1) := by decide +kernel
theorem dL_law_999 : decode cL_law 999 = .ok (.iaload, 1) := by decide +kernel
theorem dL_law_1000 : decode cL_law 1000 = .ok (.invokevirtual 171, 3) := by decide +kernel
theorem dL_law_1003 : decode cL_law 1003 = .ok (.istore 6, 2) := by decide +kernel
theorem dL_law_1005 : decode cL_law 1005 = .ok (.aload_n 2, 1) := by decide +kernel
theorem dL_law_1006 : decode cL_law 1006 = .ok (.invokevirtual 120, 3) := by decide +kernel
theorem dL_law_1009 : decode cL_law 1009 = .ok (.iload 5, 2) := by decide +kernel
theorem dL_law_1011 : decode cL_law 1011 = .ok (.if_icmp .eq 5, 3) := by decide +kernel
theorem dL_law_1014 : decode cL_law 1014 = .ok (.iconst 0, 1) := by decide +kernel
theorem dL_law_1015 : decode cL_law 1015 = .ok (.ireturn, 1) := by decide +kernel
theorem dL_law_1016 : decode cL_law 1016 = .ok (.iload 5, 2) := by decide +kernel
theorem dL_law_1018 : decode cL_law 1018 = .ok (.ifCond .ne 15, 3) := by decide +kernel
theorem dL_law_1021 : decode cL_law 1021 = .ok (.aload_n 3, 1) := by decide +kernel
theorem dL_law_1022 : decode cL_law 1022 = .ok (.iconst 0, 1) := by decide +kernel
theorem dL_law_1023 : decode cL_law 1023 = .ok (.laload, 1) := by decide +kernel
theorem dL_law_1024 : decode cL_law 1024 = .ok (.iload 6, 2) := by decide +kernel
theorem dL_law_1026 : decode cL_law 1026 = .ok (.i2l, 1) := by decide +kernel
theorem dL_law_1027 : decode cL_law 1027 = .ok (.lcmp, 1) := by decide +kernel
theorem dL_law_1028 : decode cL_law 1028 = .ok (.ifCond .eq 5, 3) := by decide +kernel
theorem dL_law_1031 : decode cL_law 1031 = .ok (.iconst 0, 1) := by decide +kernel
theorem dL_law_1032 : decode cL_law 1032 = .ok (.ireturn, 1) := by decide +kernel
theorem dL_law_1033 : decode cL_law 1033 = .ok (.goto 1075, 3) := by decide +kernel
theorem dL_law_1036 : decode cL_law 1036 = .ok (.aload_n 1, 1) := by decide +kernel
theorem dL_law_1037 : decode cL_law 1037 = .ok (.aload_n 0, 1) := by decide +kernel
theorem dL_law_1038 : decode cL_law 1038 = .ok (.iload 4, 2) := by decide +kernel
theorem dL_law_1040 : decode cL_law 1040 = .ok (.iconst 1, 1) := by decide +kernel
theorem dL_law_1041 : decode cL_law 1041 = .ok (.iadd, 1) := by decide +kernel
theorem dL_law_1042 : decode cL_law 1042 = .ok (.iaload, 1) := by decide +kernel
theorem dL_law_1043 : decode cL_law 1043 = .ok (.aload_n 3, 1) := by decide +kernel
theorem dL_law_1044 : decode cL_law 1044 = .ok (.invokestatic 172, 3) := by decide +kernel
theorem dL_law_1047 : decode cL_law 1047 = .ok (.istore 5, 2) := by decide +kernel
theorem dL_law_1049 : decode cL_law 1049 = .ok (.aload_n 2, 1) := by decide +kernel
theorem dL_law_1050 : decode cL_law 1050 = .ok (.aload_n 0, 1) := by decide +kernel
theorem dL_law_1051 : decode cL_law 1051 = .ok (.iload 4, 2) := by decide +kernel
theorem dL_law_1053 : decode cL_law 1053 = .ok (.iconst 1, 1) := by decide +kernel
theorem dL_law_1054 : decode cL_law 1054 = .ok (.iadd, 1) := by decide +kernel
theorem dL_law_1055 : decode cL_law 1055 = .ok (.iaload, 1) := by decide +kernel
theorem dL_law_1056 : decode cL_law 1056 = .ok (.invokevirtual 174, 3) := by decide +kernel
theorem dL_law_1059 : decode cL_law 1059 = .ok (.istore 6, 2) := by decide +kernel
theorem dL_law_1061 : decode cL_law 1061 = .ok (.aload_n 2, 1) := by decide +kernel
theorem dL_law_1062 : decode cL_law 1062 = .ok (.invokevirtual 120, 3) := by decide +kernel
theorem dL_law_1065 : decode cL_law 1065 = .ok (.iload 5, 2) := by decide +kernel
theorem dL_law_1067 : decode cL_law 1067 = .ok (.if_icmp .eq 5, 3) := by decide +kernel
theorem dL_law_1070 : decode cL_law 1070 = .ok (.iconst 0, 1) := by decide +kernel
theorem dL_law_1071 : decode cL_law 1071 = .ok (.ireturn, 1) := by decide +kernel
theorem dL_law_1072 : decode cL_law 1072 = .ok (.iload 5, 2) := by decide +kernel
theorem dL_law_1074 : decode cL_law 1074 = .ok (.ifCond .ne 15, 3) := by decide +kernel
theorem dL_law_1077 : decode cL_law 1077 = .ok (.aload_n 3, 1) := by decide +kernel
theorem dL_law_1078 : decode cL_law 1078 = .ok (.iconst 0, 1) := by decide +kernel
theorem dL_law_1079 : decode cL_law 1079 = .ok (.laload, 1) := by decide +kernel
theorem dL_law_1080 : decode cL_law 1080 = .ok (.iload 6, 2) := by decide +kernel
theorem dL_law_1082 : decode cL_law 1082 = .ok (.i2l, 1) := by decide +kernel
theorem dL_law_1083 : decode cL_law 1083 = .ok (.lcmp, 1) := by decide +kernel
theorem dL_law_1084 : decode cL_law 1084 = .ok (.ifCond .eq 5, 3) := by decide +kernel
theorem dL_law_1087 : decode cL_law 1087 = .ok (.iconst 0, 1) := by decide +kernel
theorem dL_law_1088 : decode cL_law 1088 = .ok (.ireturn, 1) := by decide +kernel
theorem dL_law_1089 : decode cL_law 1089 = .ok (.goto 1019, 3) := by decide +kernel
theorem dL_law_1092 : decode cL_law 1092 = .ok (.aload_n 1, 1) := by decide +kernel
theorem dL_law_1093 : decode cL_law 1093 = .ok (.aload_n 0, 1) := by decide +kernel
theorem dL_law_1094 : decode cL_law 1094 = .ok (.iload 4, 2) := by decide +kernel
theorem dL_law_1096 : decode cL_law 1096 = .ok (.iconst 1, 1) := by decide +kernel
theorem dL_law_1097 : decode cL_law 1097 = .ok (.iadd, 1) := by decide +kernel
theorem dL_law_1098 : decode cL_law 1098 = .ok (.iaload, 1) := by decide +kernel
theorem dL_law_1099 : decode cL_law 1099 = .ok (.aload_n 0, 1) := by decide +kernel
theorem dL_law_1100 : decode cL_law 1100 = .ok (.iload 4, 2) := by decide +kernel
theorem dL_law_1102 : decode cL_law 1102 = .ok (.iconst 2, 1) := by decide +kernel
theorem dL_law_1103 : decode cL_law 1103 = .ok (.iadd, 1) := by decide +kernel
theorem dL_law_1104 : decode cL_law 1104 = .ok (.iaload, 1) := by decide +kernel
theorem dL_law_1105 : decode cL_law 1105 = .ok (.aload_n 3, 1) := by decide +kernel
theorem dL_law_1106 : decode cL_law 1106 = .ok (.invokestatic 175, 3) := by decide +kernel
theorem dL_law_1109 : decode cL_law 1109 = .ok (.istore 5, 2) := by decide +kernel
theorem dL_law_1111 : decode cL_law 1111 = .ok (.aload_n 2, 1) := by decide +kernel
theorem dL_law_1112 : decode cL_law 1112 = .ok (.aload_n 0, 1) := by decide +kernel
theorem dL_law_1113 : decode cL_law 1113 = .ok (.iload 4, 2) := by decide +kernel
theorem dL_law_1115 : decode cL_law 1115 = .ok (.iconst 1, 1) := by decide +kernel
theorem dL_law_1116 : decode cL_law 1116 = .ok (.iadd, 1) := by decide +kernel
theorem dL_law_1117 : decode cL_law 1117 = .ok (.iaload, 1) := by decide +kernel
theorem dL_law_1118 : decode cL_law 1118 = .ok (.aload_n 0, 1) := by decide +kernel
theorem dL_law_1119 : decode cL_law 1119 = .ok (.iload 4, 2) := by decide +kernel
theorem dL_law_1121 : decode cL_law 1121 = .ok (.iconst 2, 1) := by decide +kernel
theorem dL_law_1122 : decode cL_law 1122 = .ok (.iadd, 1) := by decide +kernel
theorem dL_law_1123 : decode cL_law 1123 = .ok (.iaload, 1) := by decide +kernel
theorem dL_law_1124 : decode cL_law 1124 = .ok (.invokevirtual 177, 3) := by decide +kernel
theorem dL_law_1127 : decode cL_law 1127 = .ok (.istore 6, 2) := by decide +kernel
theorem dL_law_1129 : decode cL_law 1129 = .ok (.aload_n 2, 1) := by decide +kernel
theorem dL_law_1130 : decode cL_law 1130 = .ok (.invokevirtual 120, 3) := by decide +kernel
theorem dL_law_1133 : decode cL_law 1133 = .ok (.iload 5, 2) := by decide +kernel
theorem dL_law_1135 : decode cL_law 1135 = .ok (.if_icmp .eq 5, 3) := by decide +kernel
theorem dL_law_1138 : decode cL_law 1138 = .ok (.iconst 0, 1) := by decide +kernel
theorem dL_law_1139 : decode cL_law 1139 = .ok (.ireturn, 1) := by decide +kernel
theorem dL_law_1140 : decode cL_law 1140 = .ok (.iload 5, 2) := by decide +kernel
theorem dL_law_1142 : decode cL_law 1142 = .ok (.ifCond .ne 15, 3) := by decide +kernel
theorem dL_law_1145 : decode cL_law 1145 = .ok (.aload_n 3, 1) := by decide +kernel
theorem dL_law_1146 : decode cL_law 1146 = .ok (.iconst 0, 1) := by decide +kernel
theorem dL_law_1147 : decode cL_law 1147 = .ok (.laload, 1) := by decide +kernel
theorem dL_law_1148 : decode cL_law 1148 = .ok (.iload 6, 2) := by decide +kernel
theorem dL_law_1150 : decode cL_law 1150 = .ok (.i2l, 1) := by decide +kernel
theorem dL_law_1151 : decode cL_law 1151 = .ok (.lcmp, 1) := by decide +kernel
theorem dL_law_1152 : decode cL_law 1152 = .ok (.ifCond .eq 5, 3) := by decide +kernel
theorem dL_law_1155 : decode cL_law 1155 = .ok (.iconst 0, 1) := by decide +kernel
theorem dL_law_1156 : decode cL_law 1156 = .ok (.ireturn, 1) := by decide +kernel
theorem dL_law_1157 : decode cL_law 1157 = .ok (.goto 951, 3) := by decide +kernel
theorem dL_law_1160 : decode cL_law 1160 = .ok (.aload_n 1, 1) := by decide +kernel
theorem dL_law_1161 : decode cL_law 1161 = .ok (.aload_n 0, 1) := by decide +kernel
theorem dL_law_1162 : decode cL_law 1162 = .ok (.iload 4, 2) := by decide +kernel
theorem dL_law_1164 : decode cL_law 1164 = .ok (.iconst 1, 1) := by decide +kernel
theorem dL_law_1165 : decode cL_law 1165 = .ok (.iadd, 1) := by decide +kernel
theorem dL_law_1166 : decode cL_law 1166 = .ok (.iaload, 1) := by decide +kernel
theorem dL_law_1167 : decode cL_law 1167 = .ok (.aload_n 3, 1) := by decide +kernel
theorem dL_law_1168 : decode cL_law 1168 = .ok (.invokestatic 178, 3) := by decide +kernel
theorem dL_law_1171 : decode cL_law 1171 = .ok (.istore 5, 2) := by decide +kernel
theorem dL_law_1173 : decode cL_law 1173 = .ok (.aload_n 2, 1) := by decide +kernel
theorem dL_law_1174 : decode cL_law 1174 = .ok (.aload_n 0, 1) := by decide +kernel
theorem dL_law_1175 : decode cL_law 1175 = .ok (.iload 4, 2) := by decide +kernel
theorem dL_law_1177 : decode cL_law 1177 = .ok (.iconst 1, 1) := by decide +kernel
theorem dL_law_1178 : decode cL_law 1178 = .ok (.iadd, 1) := by decide +kernel
theorem dL_law_1179 : decode cL_law 1179 = .ok (.iaload, 1) := by decide +kernel
theorem dL_law_1180 : decode cL_law 1180 = .ok (.invokevirtual 180, 3) := by decide +kernel
theorem dL_law_1183 : decode cL_law 1183 = .ok (.istore 6, 2) := by decide +kernel
theorem dL_law_1185 : decode cL_law 1185 = .ok (.aload_n 2, 1) := by decide +kernel
theorem dL_law_1186 : decode cL_law 1186 = .ok (.invokevirtual 120, 3) := by decide +kernel
theorem dL_law_1189 : decode cL_law 1189 = .ok (.iload 5, 2) := by decide +kernel
theorem dL_law_1191 : decode cL_law 1191 = .ok (.if_icmp .eq 5, 3) := by decide +kernel
theorem dL_law_1194 : decode cL_law 1194 = .ok (.iconst 0, 1) := by decide +kernel
theorem dL_law_1195 : decode cL_law 1195 = .ok (.ireturn, 1) := by decide +kernel
theorem dL_law_1196 : decode cL_law 1196 = .ok (.iload 5, 2) := by decide +kernel
theorem dL_law_1198 : decode cL_law 1198 = .ok (.ifCond .ne 15, 3) := by decide +kernel
theorem dL_law_1201 : decode cL_law 1201 = .ok (.aload_n 3, 1) := by decide +kernel
theorem dL_law_1202 : decode cL_law 1202 = .ok (.iconst 0, 1) := by decide +kernel
theorem dL_law_1203 : decode cL_law 1203 = .ok (.laload, 1) := by decide +kernel
theorem dL_law_1204 : decode cL_law 1204 = .ok (.iload 6, 2) := by decide +kernel
theorem dL_law_1206 : decode cL_law 1206 = .ok (.i2l, 1) := by decide +kernel
theorem dL_law_1207 : decode cL_law 1207 = .ok (.lcmp, 1) := by decide +kernel
theorem dL_law_1208 : decode cL_law 1208 = .ok (.ifCond .eq 5, 3) := by decide +kernel
theorem dL_law_1211 : decode cL_law 1211 = .ok (.iconst 0, 1) := by decide +kernel
theorem dL_law_1212 : decode cL_law 1212 = .ok (.ireturn, 1) := by decide +kernel
theorem dL_law_1213 : decode cL_law 1213 = .ok (.goto 895, 3) := by decide +kernel
theorem dL_law_1216 : decode cL_law 1216 = .ok (.aload_n 1, 1) := by decide +kernel
theorem dL_law_1217 : decode cL_law 1217 = .ok (.aload_n 0, 1) := by decide +kernel
theorem dL_law_1218 : decode cL_law 1218 = .ok (.iload 4, 2) := by decide +kernel
theorem dL_law_1220 : decode cL_law 1220 = .ok (.iconst 1, 1) := by decide +kernel
theorem dL_law_1221 : decode cL_law 1221 = .ok (.iadd, 1) := by decide +kernel
theorem dL_law_1222 : decode cL_law 1222 = .ok (.iaload, 1) := by decide +kernel
theorem dL_law_1223 : decode cL_law 1223 = .ok (.aload_n 3, 1) := by decide +kernel
theorem dL_law_1224 : decode cL_law 1224 = .ok (.invokestatic 181, 3) := by decide +kernel
theorem dL_law_1227 : decode cL_law 1227 = .ok (.istore 5, 2) := by decide +kernel
theorem dL_law_1229 : decode cL_law 1229 = .ok (.aload_n 2, 1) := by decide +kernel
theorem dL_law_1230 : decode cL_law 1230 = .ok (.aload_n 0, 1) := by decide +kernel
theorem dL_law_1231 : decode cL_law 1231 = .ok (.iload 4, 2) := by decide +kernel
theorem dL_law_1233 : decode cL_law 1233 = .ok (.iconst 1, 1) := by decide +kernel
theorem dL_law_1234 : decode cL_law 1234 = .ok (.iadd, 1) := by decide +kernel
theorem dL_law_1235 : decode cL_law 1235 = .ok (.iaload, 1) := by decide +kernel
theorem dL_law_1236 : decode cL_law 1236 = .ok (.invokevirtual 183, 3) := by decide +kernel
theorem dL_law_1239 : decode cL_law 1239 = .ok (.istore 6, 2) := by decide +kernel
theorem dL_law_1241 : decode cL_law 1241 = .ok (.aload_n 2, 1) := by decide +kernel
theorem dL_law_1242 : decode cL_law 1242 = .ok (.invokevirtual 120, 3) := by decide +kernel
theorem dL_law_1245 : decode cL_law 1245 = .ok (.iload 5, 2) := by decide +kernel
theorem dL_law_1247 : decode cL_law 1247 = .ok (.if_icmp .eq 5, 3) := by decide +kernel
theorem dL_law_1250 : decode cL_law 1250 = .ok (.iconst 0, 1) := by decide +kernel
theorem dL_law_1251 : decode cL_law 1251 = .ok (.ireturn, 1) := by decide +kernel
theorem dL_law_1252 : decode cL_law 1252 = .ok (.iload 5, 2) := by decide +kernel
theorem dL_law_1254 : decode cL_law 1254 = .ok (.ifCond .ne 15, 3) := by decide +kernel
theorem dL_law_1257 : decode cL_law 1257 = .ok (.aload_n 3, 1) := by decide +kernel
theorem dL_law_1258 : decode cL_law 1258 = .ok (.iconst 0, 1) := by decide +kernel
theorem dL_law_1259 : decode cL_law 1259 = .ok (.laload, 1) := by decide +kernel
theorem dL_law_1260 : decode cL_law 1260 = .ok (.iload 6, 2) := by decide +kernel
theorem dL_law_1262 : decode cL_law 1262 = .ok (.i2l, 1) := by decide +kernel
theorem dL_law_1263 : decode cL_law 1263 = .ok (.lcmp, 1) := by decide +kernel
theorem dL_law_1264 : decode cL_law 1264 = .ok (.ifCond .eq 5, 3) := by decide +kernel
theorem dL_law_1267 : decode cL_law 1267 = .ok (.iconst 0, 1) := by decide +kernel
theorem dL_law_1268 : decode cL_law 1268 = .ok (.ireturn, 1) := by decide +kernel
theorem dL_law_1269 : decode cL_law 1269 = .ok (.goto 839, 3) := by decide +kernel
theorem dL_law_1272 : decode cL_law 1272 = .ok (.aload_n 1, 1) := by decide +kernel
theorem dL_law_1273 : decode cL_law 1273 = .ok (.aload_n 0, 1) := by decide +kernel
theorem dL_law_1274 : decode cL_law 1274 = .ok (.iload 4, 2) := by decide +kernel
theorem dL_law_1276 : decode cL_law 1276 = .ok (.iconst 1, 1) := by decide +kernel
theorem dL_law_1277 : decode cL_law 1277 = .ok (.iadd, 1) := by decide +kernel
theorem dL_law_1278 : decode cL_law 1278 = .ok (.iaload, 1) := by decide +kernel
theorem dL_law_1279 : decode cL_law 1279 = .ok (.aload_n 3, 1) := by decide +kernel
theorem dL_law_1280 : decode cL_law 1280 = .ok (.invokestatic 184, 3) := by decide +kernel
theorem dL_law_1283 : decode cL_law 1283 = .ok (.istore 5, 2) := by decide +kernel
theorem dL_law_1285 : decode cL_law 1285 = .ok (.aload_n 2, 1) := by decide +kernel
theorem dL_law_1286 : decode cL_law 1286 = .ok (.aload_n 0, 1) := by decide +kernel
theorem dL_law_1287 : decode cL_law 1287 = .ok (.iload 4, 2) := by decide +kernel
theorem dL_law_1289 : decode cL_law 1289 = .ok (.iconst 1, 1) := by decide +kernel
theorem dL_law_1290 : decode cL_law 1290 = .ok (.iadd, 1) := by decide +kernel
theorem dL_law_1291 : decode cL_law 1291 = .ok (.iaload, 1) := by decide +kernel
theorem dL_law_1292 : decode cL_law 1292 = .ok (.invokevirtual 186, 3) := by decide +kernel
theorem dL_law_1295 : decode cL_law 1295 = .ok (.istore 6, 2) := by decide +kernel
theorem dL_law_1297 : decode cL_law 1297 = .ok (.aload_n 2, 1) := by decide +kernel
theorem dL_law_1298 : decode cL_law 1298 = .ok (.invokevirtual 120, 3) := by decide +kernel
theorem dL_law_1301 : decode cL_law 1301 = .ok (.iload 5, 2) := by decide +kernel
theorem dL_law_1303 : decode cL_law 1303 = .ok (.if_icmp .eq 5, 3) := by decide +kernel
theorem dL_law_1306 : decode cL_law 1306 = .ok (.iconst 0, 1) := by decide +kernel
theorem dL_law_1307 : decode cL_law 1307 = .ok (.ireturn, 1) := by decide +kernel
theorem dL_law_1308 : decode cL_law 1308 = .ok (.iload 5, 2) := by decide +kernel
theorem dL_law_1310 : decode cL_law 1310 = .ok (.ifCond .ne 15, 3) := by decide +kernel
theorem dL_law_1313 : decode cL_law 1313 = .ok (.aload_n 3, 1) := by decide +kernel
theorem dL_law_1314 : decode cL_law 1314 = .ok (.iconst 0, 1) := by decide +kernel
theorem dL_law_1315 : decode cL_law 1315 = .ok (.laload, 1) := by decide +kernel
theorem dL_law_1316 : decode cL_law 1316 = .ok (.iload 6, 2) := by decide +kernel
theorem dL_law_1318 : decode cL_law 1318 = .ok (.i2l, 1) := by decide +kernel
theorem dL_law_1319 : decode cL_law 1319 = .ok (.lcmp, 1) := by decide +kernel
theorem dL_law_1320 : decode cL_law 1320 = .ok (.ifCond .eq 5, 3) := by decide +kernel
theorem dL_law_1323 : decode cL_law 1323 = .ok (.iconst 0, 1) := by decide +kernel
theorem dL_law_1324 : decode cL_law 1324 = .ok (.ireturn, 1) := by decide +kernel
theorem dL_law_1325 : decode cL_law 1325 = .ok (.goto 783, 3) := by decide +kernel
theorem dL_law_1328 : decode cL_law 1328 = .ok (.aload_n 1, 1) := by decide +kernel
theorem dL_law_1329 : decode cL_law 1329 = .ok (.aload_n 0, 1) := by decide +kernel
theorem dL_law_1330 : decode cL_law 1330 = .ok (.iload 4, 2) := by decide +kernel
theorem dL_law_1332 : decode cL_law 1332 = .ok (.iconst 1, 1) := by decide +kernel
theorem dL_law_1333 : decode cL_law 1333 = .ok (.iadd, 1) := by decide +kernel
theorem dL_law_1334 : decode cL_law 1334 = .ok (.iaload, 1) := by decide +kernel
theorem dL_law_1335 : decode cL_law 1335 = .ok (.aload_n 3, 1) := by decide +kernel
theorem dL_law_1336 : decode cL_law 1336 = .ok (.invokestatic 187, 3) := by decide +kernel
theorem dL_law_1339 : decode cL_law 1339 = .ok (.istore 5, 2) := by decide +kernel
theorem dL_law_1341 : decode cL_law 1341 = .ok (.aload_n 2, 1) := by decide +kernel
theorem dL_law_1342 : decode cL_law 1342 = .ok (.aload_n 0, 1) := by decide +kernel
theorem dL_law_1343 : decode cL_law 1343 = .ok (.iload 4, 2) := by decide +kernel
theorem dL_law_1345 : decode cL_law 1345 = .ok (.iconst 1, 1) := by decide +kernel
theorem dL_law_1346 : decode cL_law 1346 = .ok (.iadd, 1) := by decide +kernel
theorem dL_law_1347 : decode cL_law 1347 = .ok (.iaload, 1) := by decide +kernel
theorem dL_law_1348 : decode cL_law 1348 = .ok (.invokevirtual 189, 3) := by decide +kernel
theorem dL_law_1351 : decode cL_law 1351 = .ok (.istore 6, 2) := by decide +kernel
theorem dL_law_1353 : decode cL_law 1353 = .ok (.aload_n 2, 1) := by decide +kernel
theorem dL_law_1354 : decode cL_law 1354 = .ok (.invokevirtual 120, 3) := by decide +kernel
theorem dL_law_1357 : decode cL_law 1357 = .ok (.iload 5, 2) := by decide +kernel
theorem dL_law_1359 : decode cL_law 1359 = .ok (.if_icmp .eq 5, 3) := by decide +kernel
theorem dL_law_1362 : decode cL_law 1362 = .ok (.iconst 0, 1) := by decide +kernel
theorem dL_law_1363 : decode cL_law 1363 = .ok (.ireturn, 1) := by decide +kernel
theorem dL_law_1364 : decode cL_law 1364 = .ok (.iload 5, 2) := by decide +kernel
theorem dL_law_1366 : decode cL_law 1366 = .ok (.ifCond .ne 15, 3) := by decide +kernel
theorem dL_law_1369 : decode cL_law 1369 = .ok (.aload_n 3, 1) := by decide +kernel
theorem dL_law_1370 : decode cL_law 1370 = .ok (.iconst 0, 1) := by decide +kernel
theorem dL_law_1371 : decode cL_law 1371 = .ok (.laload, 1) := by decide +kernel
theorem dL_law_1372 : decode cL_law 1372 = .ok (.iload 6, 2) := by decide +kernel
theorem dL_law_1374 : decode cL_law 1374 = .ok (.i2l, 1) := by decide +kernel
theorem dL_law_1375 : decode cL_law 1375 = .ok (.lcmp, 1) := by decide +kernel
theorem dL_law_1376 : decode cL_law 1376 = .ok (.ifCond .eq 5, 3) := by decide +kernel
theorem dL_law_1379 : decode cL_law 1379 = .ok (.iconst 0, 1) := by decide +kernel
theorem dL_law_1380 : decode cL_law 1380 = .ok (.ireturn, 1) := by decide +kernel
theorem dL_law_1381 : decode cL_law 1381 = .ok (.goto 727, 3) := by decide +kernel
theorem dL_law_1384 : decode cL_law 1384 = .ok (.aload_n 1, 1) := by decide +kernel
theorem dL_law_1385 : decode cL_law 1385 = .ok (.aload_n 0, 1) := by decide +kernel
theorem dL_law_1386 : decode cL_law 1386 = .ok (.iload 4, 2) := by decide +kernel
theorem dL_law_1388 : decode cL_law 1388 = .ok (.iconst 1, 1) := by decide +kernel
theorem dL_law_1389 : decode cL_law 1389 = .ok (.iadd, 1) := by decide +kernel
theorem dL_law_1390 : decode cL_law 1390 = .ok (.iaload, 1) := by decide +kernel
theorem dL_law_1391 : decode cL_law 1391 = .ok (.aload_n 3, 1) := by decide +kernel
theorem dL_law_1392 : decode cL_law 1392 = .ok (.invokestatic 190, 3) := by decide +kernel
theorem dL_law_1395 : decode cL_law 1395 = .ok (.istore 5, 2) := by decide +kernel
theorem dL_law_1397 : decode cL_law 1397 = .ok (.aload_n 2, 1) := by decide +kernel
theorem dL_law_1398 : decode cL_law 1398 = .ok (.aload_n 0, 1) := by decide +kernel
theorem dL_law_1399 : decode cL_law 1399 = .ok (.iload 4, 2) := by decide +kernel
theorem dL_law_1401 : decode cL_law 1401 = .ok (.iconst 1, 1) := by decide +kernel
theorem dL_law_1402 : decode cL_law 1402 = .ok (.iadd, 1) := by decide +kernel
theorem dL_law_1403 : decode cL_law 1403 = .ok (.iaload, 1) := by decide +kernel
theorem dL_law_1404 : decode cL_law 1404 = .ok (.invokevirtual 192, 3) := by decide +kernel
theorem dL_law_1407 : decode cL_law 1407 = .ok (.istore 6, 2) := by decide +kernel
theorem dL_law_1409 : decode cL_law 1409 = .ok (.aload_n 2, 1) := by decide +kernel
theorem dL_law_1410 : decode cL_law 1410 = .ok (.invokevirtual 120, 3) := by decide +kernel
theorem dL_law_1413 : decode cL_law 1413 = .ok (.iload 5, 2) := by decide +kernel
theorem dL_law_1415 : decode cL_law 1415 = .ok (.if_icmp .eq 5, 3) := by decide +kernel
theorem dL_law_1418 : decode cL_law 1418 = .ok (.iconst 0, 1) := by decide +kernel
theorem dL_law_1419 : decode cL_law 1419 = .ok (.ireturn, 1) := by decide +kernel
theorem dL_law_1420 : decode cL_law 1420 = .ok (.iload 5, 2) := by decide +kernel
theorem dL_law_1422 : decode cL_law 1422 = .ok (.ifCond .ne 15, 3) := by decide +kernel
theorem dL_law_1425 : decode cL_law 1425 = .ok (.aload_n 3, 1) := by decide +kernel
theorem dL_law_1426 : decode cL_law 1426 = .ok (.iconst 0, 1) := by decide +kernel
theorem dL_law_1427 : decode cL_law 1427 = .ok (.laload, 1) := by decide +kernel
theorem dL_law_1428 : decode cL_law 1428 = .ok (.iload 6, 2) := by decide +kernel
theorem dL_law_1430 : decode cL_law 1430 = .ok (.i2l, 1) := by decide +kernel
theorem dL_law_1431 : decode cL_law 1431 = .ok (.lcmp, 1) := by decide +kernel
theorem dL_law_1432 : decode cL_law 1432 = .ok (.ifCond .eq 5, 3) := by decide +kernel
theorem dL_law_1435 : decode cL_law 1435 = .ok (.iconst 0, 1) := by decide +kernel
theorem dL_law_1436 : decode cL_law 1436 = .ok (.ireturn, 1) := by decide +kernel
theorem dL_law_1437 : decode cL_law 1437 = .ok (.goto 671, 3) := by decide +kernel
theorem dL_law_1440 : decode cL_law 1440 = .ok (.aload_n 1, 1) := by decide +kernel
theorem dL_law_1441 : decode cL_law 1441 = .ok (.aload_n 0, 1) := by decide +kernel
theorem dL_law_1442 : decode cL_law 1442 = .ok (.iload 4, 2) := by decide +kernel
theorem dL_law_1444 : decode cL_law 1444 = .ok (.iconst 1, 1) := by decide +kernel
theorem dL_law_1445 : decode cL_law 1445 = .ok (.iadd, 1) := by decide +kernel
theorem dL_law_1446 : decode cL_law 1446 = .ok (.iaload, 1) := by decide +kernel
theorem dL_law_1447 : decode cL_law 1447 = .ok (.aload_n 3, 1) := by decide +kernel
theorem dL_law_1448 : decode cL_law 1448 = .ok (.invokestatic 193, 3) := by decide +kernel
theorem dL_law_1451 : decode cL_law 1451 = .ok (.istore 5, 2) := by decide +kernel
theorem dL_law_1453 : decode cL_law 1453 = .ok (.aload_n 2, 1) := by decide +kernel
theorem dL_law_1454 : decode cL_law 1454 = .ok (.aload_n 0, 1) := by decide +kernel
theorem dL_law_1455 : decode cL_law 1455 = .ok (.iload 4, 2) := by decide +kernel
theorem dL_law_1457 : decode cL_law 1457 = .ok (.iconst 1, 1) := by decide +kernel
theorem dL_law_1458 : decode cL_law 1458 = .ok (.iadd, 1) := by decide +kernel
theorem dL_law_1459 : decode cL_law 1459 = .ok (.iaload, 1) := by decide +kernel
theorem dL_law_1460 : decode cL_law 1460 = .ok (.invokevirtual 195, 3) := by decide +kernel
theorem dL_law_1463 : decode cL_law 1463 = .ok (.istore 6, 2) := by decide +kernel
theorem dL_law_1465 : decode cL_law 1465 = .ok (.aload_n 2, 1) := by decide +kernel
theorem dL_law_1466 : decode cL_law 1466 = .ok (.invokevirtual 120, 3) := by decide +kernel
theorem dL_law_1469 : decode cL_law 1469 = .ok (.iload 5, 2) := by decide +kernel
theorem dL_law_1471 : decode cL_law 1471 = .ok (.if_icmp .eq 5, 3) := by decide +kernel
theorem dL_law_1474 : decode cL_law 1474 = .ok (.iconst 0, 1) := by decide +kernel
theorem dL_law_1475 : decode cL_law 1475 = .ok (.ireturn, 1) := by decide +kernel
theorem dL_law_1476 : decode cL_law 1476 = .ok (.iload 5, 2) := by decide +kernel
theorem dL_law_1478 : decode cL_law 1478 = .ok (.ifCond .ne 15, 3) := by decide +kernel
theorem dL_law_1481 : decode cL_law 1481 = .ok (.aload_n 3, 1) := by decide +kernel
theorem dL_law_1482 : decode cL_law 1482 = .ok (.iconst 0, 1) := by decide +kernel
theorem dL_law_1483 : decode cL_law 1483 = .ok (.laload, 1) := by decide +kernel
theorem dL_law_1484 : decode cL_law 1484 = .ok (.iload 6, 2) := by decide +kernel
theorem dL_law_1486 : decode cL_law 1486 = .ok (.i2l, 1) := by decide +kernel
theorem dL_law_1487 : decode cL_law 1487 = .ok (.lcmp, 1) := by decide +kernel
theorem dL_law_1488 : decode cL_law 1488 = .ok (.ifCond .eq 5, 3) := by decide +kernel
theorem dL_law_1491 : decode cL_law 1491 = .ok (.iconst 0, 1) := by decide +kernel
theorem dL_law_1492 : decode cL_law 1492 = .ok (.ireturn, 1) := by decide +kernel
theorem dL_law_1493 : decode cL_law 1493 = .ok (.goto 615, 3) := by decide +kernel
theorem dL_law_1496 : decode cL_law 1496 = .ok (.aload_n 1, 1) := by decide +kernel
theorem dL_law_1497 : decode cL_law 1497 = .ok (.aload_n 0, 1) := by decide +kernel
theorem dL_law_1498 : decode cL_law 1498 = .ok (.iload 4, 2) := by decide +kernel
theorem dL_law_1500 : decode cL_law 1500 = .ok (.iconst 1, 1) := by decide +kernel
theorem dL_law_1501 : decode cL_law 1501 = .ok (.iadd, 1) := by decide +kernel
theorem dL_law_1502 : decode cL_law 1502 = .ok (.iaload, 1) := by decide +kernel
theorem dL_law_1503 : decode cL_law 1503 = .ok (.aload_n 3, 1) := by decide +kernel
theorem dL_law_1504 : decode cL_law 1504 = .ok (.invokestatic 196, 3) := by decide +kernel
theorem dL_law_1507 : decode cL_law 1507 = .ok (.istore 5, 2) := by decide +kernel
theorem dL_law_1509 : decode cL_law 1509 = .ok (.aload_n 2, 1) := by decide +kernel
theorem dL_law_1510 : decode cL_law 1510 = .ok (.aload_n 0, 1) := by decide +kernel
theorem dL_law_1511 : decode cL_law 1511 = .ok (.iload 4, 2) := by decide +kernel
theorem dL_law_1513 : decode cL_law 1513 = .ok (.iconst 1, 1) := by decide +kernel
theorem dL_law_1514 : decode cL_law 1514 = .ok (.iadd, 1) := by decide +kernel
theorem dL_law_1515 : decode cL_law 1515 = .ok (.iaload, 1) := by decide +kernel
theorem dL_law_1516 : decode cL_law 1516 = .ok (.invokevirtual 198, 3) := by decide +kernel
theorem dL_law_1519 : decode cL_law 1519 = .ok (.istore 6, 2) := by decide +kernel
theorem dL_law_1521 : decode cL_law 1521 = .ok (.aload_n 2, 1) := by decide +kernel
theorem dL_law_1522 : decode cL_law 1522 = .ok (.invokevirtual 120, 3) := by decide +kernel
theorem dL_law_1525 : decode cL_law 1525 = .ok (.iload 5, 2) := by decide +kernel
theorem dL_law_1527 : decode cL_law 1527 = .ok (.if_icmp .eq 5, 3) := by decide +kernel
theorem dL_law_1530 : decode cL_law 1530 = .ok (.iconst 0, 1) := by decide +kernel
theorem dL_law_1531 : decode cL_law 1531 = .ok (.ireturn, 1) := by decide +kernel
theorem dL_law_1532 : decode cL_law 1532 = .ok (.iload 5, 2) := by decide +kernel
theorem dL_law_1534 : decode cL_law 1534 = .ok (.ifCond .ne 15, 3) := by decide +kernel
theorem dL_law_1537 : decode cL_law 1537 = .ok (.aload_n 3, 1) := by decide +kernel
theorem dL_law_1538 : decode cL_law 1538 = .ok (.iconst 0, 1) := by decide +kernel
theorem dL_law_1539 : decode cL_law 1539 = .ok (.laload, 1) := by decide +kernel
theorem dL_law_1540 : decode cL_law 1540 = .ok (.iload 6, 2) := by decide +kernel
theorem dL_law_1542 : decode cL_law 1542 = .ok (.i2l, 1) := by decide +kernel
theorem dL_law_1543 : decode cL_law 1543 = .ok (.lcmp, 1) := by decide +kernel
theorem dL_law_1544 : decode cL_law 1544 = .ok (.ifCond .eq 5, 3) := by decide +kernel
theorem dL_law_1547 : decode cL_law 1547 = .ok (.iconst 0, 1) := by decide +kernel
theorem dL_law_1548 : decode cL_law 1548 = .ok (.ireturn, 1) := by decide +kernel
theorem dL_law_1549 : decode cL_law 1549 = .ok (.goto 559, 3) := by decide +kernel
theorem dL_law_1552 : decode cL_law 1552 = .ok (.aload_n 1, 1) := by decide +kernel
theorem dL_law_1553 : decode cL_law 1553 = .ok (.aload_n 0, 1) := by decide +kernel
theorem dL_law_1554 : decode cL_law 1554 = .ok (.iload 4, 2) := by decide +kernel
theorem dL_law_1556 : decode cL_law 1556 = .ok (.iconst 1, 1) := by decide +kernel
theorem dL_law_1557 : decode cL_law 1557 = .ok (.iadd, 1) := by decide +kernel
theorem dL_law_1558 : decode cL_law 1558 = .ok (.iaload, 1) := by decide +kernel
theorem dL_law_1559 : decode cL_law 1559 = .ok (.aload_n 3, 1) := by decide +kernel
theorem dL_law_1560 : decode cL_law 1560 = .ok (.invokestatic 199, 3) := by decide +kernel
theorem dL_law_1563 : decode cL_law 1563 = .ok (.istore 5, 2) := by decide +kernel
theorem dL_law_1565 : decode cL_law 1565 = .ok (.aload_n 2, 1) := by decide +kernel
theorem dL_law_1566 : decode cL_law 1566 = .ok (.aload_n 0, 1) := by decide +kernel
theorem dL_law_1567 : decode cL_law 1567 = .ok (.iload 4, 2) := by decide +kernel
theorem dL_law_1569 : decode cL_law 1569 = .ok (.iconst 1, 1) := by decide +kernel
theorem dL_law_1570 : decode cL_law 1570 = .ok (.iadd, 1) := by decide +kernel
theorem dL_law_1571 : decode cL_law 1571 = .ok (.iaload, 1) := by decide +kernel
theorem dL_law_1572 : decode cL_law 1572 = .ok (.invokevirtual 201, 3) := by decide +kernel
theorem dL_law_1575 : decode cL_law 1575 = .ok (.istore 6, 2) := by decide +kernel
theorem dL_law_1577 : decode cL_law 1577 = .ok (.aload_n 2, 1) := by decide +kernel
theorem dL_law_1578 : decode cL_law 1578 = .ok (.invokevirtual 120, 3) := by decide +kernel
theorem dL_law_1581 : decode cL_law 1581 = .ok (.iload 5, 2) := by decide +kernel
theorem dL_law_1583 : decode cL_law 1583 = .ok (.if_icmp .eq 5, 3) := by decide +kernel
theorem dL_law_1586 : decode cL_law 1586 = .ok (.iconst 0, 1) := by decide +kernel
theorem dL_law_1587 : decode cL_law 1587 = .ok (.ireturn, 1) := by decide +kernel
theorem dL_law_1588 : decode cL_law 1588 = .ok (.iload 5, 2) := by decide +kernel
theorem dL_law_1590 : decode cL_law 1590 = .ok (.ifCond .ne 15, 3) := by decide +kernel
theorem dL_law_1593 : decode cL_law 1593 = .ok (.aload_n 3, 1) := by decide +kernel
theorem dL_law_1594 : decode cL_law 1594 = .ok (.iconst 0, 1) := by decide +kernel
theorem dL_law_1595 : decode cL_law 1595 = .ok (.laload, 1) := by decide +kernel
theorem dL_law_1596 : decode cL_law 1596 = .ok (.iload 6, 2) := by decide +kernel
theorem dL_law_1598 : decode cL_law 1598 = .ok (.i2l, 1) := by decide +kernel
theorem dL_law_1599 : decode cL_law 1599 = .ok (.lcmp, 1) := by decide +kernel
theorem dL_law_1600 : decode cL_law 1600 = .ok (.ifCond .eq 5, 3) := by decide +kernel
theorem dL_law_1603 : decode cL_law 1603 = .ok (.iconst 0, 1) := by decide +kernel
theorem dL_law_1604 : decode cL_law 1604 = .ok (.ireturn, 1) := by decide +kernel
theorem dL_law_1605 : decode cL_law 1605 = .ok (.goto 503, 3) := by decide +kernel
theorem dL_law_1608 : decode cL_law 1608 = .ok (.aload_n 1, 1) := by decide +kernel
theorem dL_law_1609 : decode cL_law 1609 = .ok (.aload_n 0, 1) := by decide +kernel
theorem dL_law_1610 : decode cL_law 1610 = .ok (.iload 4, 2) := by decide +kernel
theorem dL_law_1612 : decode cL_law 1612 = .ok (.iconst 1, 1) := by decide +kernel
theorem dL_law_1613 : decode cL_law 1613 = .ok (.iadd, 1) := by decide +kernel
theorem dL_law_1614 : decode cL_law 1614 = .ok (.iaload, 1) := by decide +kernel
theorem dL_law_1615 : decode cL_law 1615 = .ok (.aload_n 0, 1) := by decide +kernel
theorem dL_law_1616 : decode cL_law 1616 = .ok (.iload 4, 2) := by decide +kernel
theorem dL_law_1618 : decode cL_law 1618 = .ok (.iconst 2, 1) := by decide +kernel
theorem dL_law_1619 : decode cL_law 1619 = .ok (.iadd, 1) := by decide +kernel
theorem dL_law_1620 : decode cL_law 1620 = .ok (.iaload, 1) := by decide +kernel
theorem dL_law_1621 : decode cL_law 1621 = .ok (.aload_n 0, 1) := by decide +kernel
theorem dL_law_1622 : decode cL_law 1622 = .ok (.iload 4, 2) := by decide +kernel
theorem dL_law_1624 : decode cL_law 1624 = .ok (.iconst 3, 1) := by decide +kernel
theorem dL_law_1625 : decode cL_law 1625 = .ok (.iadd, 1) := by decide +kernel
theorem dL_law_1626 : decode cL_law 1626 = .ok (.iaload, 1) := by decide +kernel
theorem dL_law_1627 : decode cL_law 1627 = .ok (.aload_n 3, 1) := by decide +kernel
theorem dL_law_1628 : decode cL_law 1628 = .ok (.invokestatic 202, 3) := by decide +kernel
theorem dL_law_1631 : decode cL_law 1631 = .ok (.istore 5, 2) := by decide +kernel
theorem dL_law_1633 : decode cL_law 1633 = .ok (.aload_n 2, 1) := by decide +kernel
theorem dL_law_1634 : decode cL_law 1634 = .ok (.aload_n 0, 1) := by decide +kernel
theorem dL_law_1635 : decode cL_law 1635 = .ok (.iload 4, 2) := by decide +kernel
theorem dL_law_1637 : decode cL_law 1637 = .ok (.iconst 1, 1) := by decide +kernel
theorem dL_law_1638 : decode cL_law 1638 = .ok (.iadd, 1) := by decide +kernel
theorem dL_law_1639 : decode cL_law 1639 = .ok (.iaload, 1) := by decide +kernel
theorem dL_law_1640 : decode cL_law 1640 = .ok (.aload_n 0, 1) := by decide +kernel
theorem dL_law_1641 : decode cL_law 1641 = .ok (.iload 4, 2) := by decide +kernel
theorem dL_law_1643 : decode cL_law 1643 = .ok (.iconst 2, 1) := by decide +kernel
theorem dL_law_1644 : decode cL_law 1644 = .ok (.iadd, 1) := by decide +kernel
theorem dL_law_1645 : decode cL_law 1645 = .ok (.iaload, 1) := by decide +kernel
theorem dL_law_1646 : decode cL_law 1646 = .ok (.aload_n 0, 1) := by decide +kernel
theorem dL_law_1647 : decode cL_law 1647 = .ok (.iload 4, 2) := by decide +kernel
theorem dL_law_1649 : decode cL_law 1649 = .ok (.iconst 3, 1) := by decide +kernel
theorem dL_law_1650 : decode cL_law 1650 = .ok (.iadd, 1) := by decide +kernel
theorem dL_law_1651 : decode cL_law 1651 = .ok (.iaload, 1) := by decide +kernel
theorem dL_law_1652 : decode cL_law 1652 = .ok (.invokevirtual 204, 3) := by decide +kernel
theorem dL_law_1655 : decode cL_law 1655 = .ok (.istore 6, 2) := by decide +kernel
theorem dL_law_1657 : decode cL_law 1657 = .ok (.aload_n 2, 1) := by decide +kernel
theorem dL_law_1658 : decode cL_law 1658 = .ok (.invokevirtual 120, 3) := by decide +kernel
theorem dL_law_1661 : decode cL_law 1661 = .ok (.iload 5, 2) := by decide +kernel
theorem dL_law_1663 : decode cL_law 1663 = .ok (.if_icmp .eq 5, 3) := by decide +kernel
theorem dL_law_1666 : decode cL_law 1666 = .ok (.iconst 0, 1) := by decide +kernel
theorem dL_law_1667 : decode cL_law 1667 = .ok (.ireturn, 1) := by decide +kernel
theorem dL_law_1668 : decode cL_law 1668 = .ok (.iload 5, 2) := by decide +kernel
theorem dL_law_1670 : decode cL_law 1670 = .ok (.ifCond .ne 15, 3) := by decide +kernel
theorem dL_law_1673 : decode cL_law 1673 = .ok (.aload_n 3, 1) := by decide +kernel
theorem dL_law_1674 : decode cL_law 1674 = .ok (.iconst 0, 1) := by decide +kernel
theorem dL_law_1675 : decode cL_law 1675 = .ok (.laload, 1) := by decide +kernel
theorem dL_law_1676 : decode cL_law 1676 = .ok (.iload 6, 2) := by decide +kernel
theorem dL_law_1678 : decode cL_law 1678 = .ok (.i2l, 1) := by decide +kernel
theorem dL_law_1679 : decode cL_law 1679 = .ok (.lcmp, 1) := by decide +kernel
theorem dL_law_1680 : decode cL_law 1680 = .ok (.ifCond .eq 5, 3) := by decide +kernel
theorem dL_law_1683 : decode cL_law 1683 = .ok (.iconst 0, 1) := by decide +kernel
theorem dL_law_1684 : decode cL_law 1684 = .ok (.ireturn, 1) := by decide +kernel
theorem dL_law_1685 : decode cL_law 1685 = .ok (.goto 423, 3) := by decide +kernel
theorem dL_law_1688 : decode cL_law 1688 = .ok (.aload_n 1, 1) := by decide +kernel
theorem dL_law_1689 : decode cL_law 1689 = .ok (.aload_n 0, 1) := by decide +kernel
theorem dL_law_1690 : decode cL_law 1690 = .ok (.iload 4, 2) := by decide +kernel
theorem dL_law_1692 : decode cL_law 1692 = .ok (.iconst 1, 1) := by decide +kernel
theorem dL_law_1693 : decode cL_law 1693 = .ok (.iadd, 1) := by decide +kernel
theorem dL_law_1694 : decode cL_law 1694 = .ok (.iaload, 1) := by decide +kernel
theorem dL_law_1695 : decode cL_law 1695 = .ok (.aload_n 0, 1) := by decide +kernel
theorem dL_law_1696 : decode cL_law 1696 = .ok (.iload 4, 2) := by decide +kernel
theorem dL_law_1698 : decode cL_law 1698 = .ok (.iconst 2, 1) := by decide +kernel
theorem dL_law_1699 : decode cL_law 1699 = .ok (.iadd, 1) := by decide +kernel
theorem dL_law_1700 : decode cL_law 1700 = .ok (.iaload, 1) := by decide +kernel
theorem dL_law_1701 : decode cL_law 1701 = .ok (.aload_n 3, 1) := by decide +kernel
theorem dL_law_1702 : decode cL_law 1702 = .ok (.invokestatic 205, 3) := by decide +kernel
theorem dL_law_1705 : decode cL_law 1705 = .ok (.istore 5, 2) := by decide +kernel
theorem dL_law_1707 : decode cL_law 1707 = .ok (.aload_n 2, 1) := by decide +kernel
theorem dL_law_1708 : decode cL_law 1708 = .ok (.aload_n 0, 1) := by decide +kernel
theorem dL_law_1709 : decode cL_law 1709 = .ok (.iload 4, 2) := by decide +kernel
theorem dL_law_1711 : decode cL_law 1711 = .ok (.iconst 1, 1) := by decide +kernel
theorem dL_law_1712 : decode cL_law 1712 = .ok (.iadd, 1) := by decide +kernel
theorem dL_law_1713 : decode cL_law 1713 = .ok (.iaload, 1) := by decide +kernel
theorem dL_law_1714 : decode cL_law 1714 = .ok (.aload_n 0, 1) := by decide +kernel
theorem dL_law_1715 : decode cL_law 1715 = .ok (.iload 4, 2) := by decide +kernel
theorem dL_law_1717 : decode cL_law 1717 = .ok (.iconst 2, 1) := by decide +kernel
theorem dL_law_1718 : decode cL_law 1718 = .ok (.iadd, 1) := by decide +kernel
theorem dL_law_1719 : decode cL_law 1719 = .ok (.iaload, 1) := by decide +kernel
theorem dL_law_1720 : decode cL_law 1720 = .ok (.invokevirtual 207, 3) := by decide +kernel
theorem dL_law_1723 : decode cL_law 1723 = .ok (.istore 6, 2) := by decide +kernel
theorem dL_law_1725 : decode cL_law 1725 = .ok (.aload_n 2, 1) := by decide +kernel
theorem dL_law_1726 : decode cL_law 1726 = .ok (.invokevirtual 120, 3) := by decide +kernel
theorem dL_law_1729 : decode cL_law 1729 = .ok (.iload 5, 2) := by decide +kernel
theorem dL_law_1731 : decode cL_law 1731 = .ok (.if_icmp .eq 5, 3) := by decide +kernel
theorem dL_law_1734 : decode cL_law 1734 = .ok (.iconst 0, 1) := by decide +kernel
theorem dL_law_1735 : decode cL_law 1735 = .ok (.ireturn, 1) := by decide +kernel
theorem dL_law_1736 : decode cL_law 1736 = .ok (.iload 5, 2) := by decide +kernel
theorem dL_law_1738 : decode cL_law 1738 = .ok (.ifCond .ne 15, 3) := by decide +kernel
theorem dL_law_1741 : decode cL_law 1741 = .ok (.aload_n 3, 1) := by decide +kernel
theorem dL_law_1742 : decode cL_law 1742 = .ok (.iconst 0, 1) := by decide +kernel
theorem dL_law_1743 : decode cL_law 1743 = .ok (.laload, 1) := by decide +kernel
theorem dL_law_1744 : decode cL_law 1744 = .ok (.iload 6, 2) := by decide +kernel
theorem dL_law_1746 : decode cL_law 1746 = .ok (.i2l, 1) := by decide +kernel
theorem dL_law_1747 : decode cL_law 1747 = .ok (.lcmp, 1) := by decide +kernel
theorem dL_law_1748 : decode cL_law 1748 = .ok (.ifCond .eq 5, 3) := by decide +kernel
theorem dL_law_1751 : decode cL_law 1751 = .ok (.iconst 0, 1) := by decide +kernel
theorem dL_law_1752 : decode cL_law 1752 = .ok (.ireturn, 1) := by decide +kernel
theorem dL_law_1753 : decode cL_law 1753 = .ok (.goto 355, 3) := by decide +kernel
theorem dL_law_1756 : decode cL_law 1756 = .ok (.aload_n 1, 1) := by decide +kernel
theorem dL_law_1757 : decode cL_law 1757 = .ok (.aload_n 0, 1) := by decide +kernel
theorem dL_law_1758 : decode cL_law 1758 = .ok (.iload 4, 2) := by decide +kernel
theorem dL_law_1760 : decode cL_law 1760 = .ok (.iconst 1, 1) := by decide +kernel
theorem dL_law_1761 : decode cL_law 1761 = .ok (.iadd, 1) := by decide +kernel
theorem dL_law_1762 : decode cL_law 1762 = .ok (.iaload, 1) := by decide +kernel
theorem dL_law_1763 : decode cL_law 1763 = .ok (.aload_n 0, 1) := by decide +kernel
theorem dL_law_1764 : decode cL_law 1764 = .ok (.iload 4, 2) := by decide +kernel
theorem dL_law_1766 : decode cL_law 1766 = .ok (.iconst 2, 1) := by decide +kernel
theorem dL_law_1767 : decode cL_law 1767 = .ok (.iadd, 1) := by decide +kernel
theorem dL_law_1768 : decode cL_law 1768 = .ok (.iaload, 1) := by decide +kernel
theorem dL_law_1769 : decode cL_law 1769 = .ok (.aload_n 3, 1) := by decide +kernel
theorem dL_law_1770 : decode cL_law 1770 = .ok (.invokestatic 208, 3) := by decide +kernel
theorem dL_law_1773 : decode cL_law 1773 = .ok (.istore 5, 2) := by decide +kernel
theorem dL_law_1775 : decode cL_law 1775 = .ok (.aload_n 2, 1) := by decide +kernel
theorem dL_law_1776 : decode cL_law 1776 = .ok (.aload_n 0, 1) := by decide +kernel
theorem dL_law_1777 : decode cL_law 1777 = .ok (.iload 4, 2) := by decide +kernel
theorem dL_law_1779 : decode cL_law 1779 = .ok (.iconst 1, 1) := by decide +kernel
theorem dL_law_1780 : decode cL_law 1780 = .ok (.iadd, 1) := by decide +kernel
theorem dL_law_1781 : decode cL_law 1781 = .ok (.iaload, 1) := by decide +kernel
theorem dL_law_1782 : decode cL_law 1782 = .ok (.aload_n 0, 1) := by decide +kernel
theorem dL_law_1783 : decode cL_law 1783 = .ok (.iload 4, 2) := by decide +kernel
theorem dL_law_1785 : decode cL_law 1785 = .ok (.iconst 2, 1) := by decide +kernel
theorem dL_law_1786 : decode cL_law 1786 = .ok (.iadd, 1) := by decide +kernel
theorem dL_law_1787 : decode cL_law 1787 = .ok (.iaload, 1) := by decide +kernel
theorem dL_law_1788 : decode cL_law 1788 = .ok (.invokevirtual 210, 3) := by decide +kernel
theorem dL_law_1791 : decode cL_law 1791 = .ok (.istore 6, 2) := by decide +kernel
theorem dL_law_1793 : decode cL_law 1793 = .ok (.aload_n 2, 1) := by decide +kernel
theorem dL_law_1794 : decode cL_law 1794 = .ok (.invokevirtual 120, 3) := by decide +kernel
theorem dL_law_1797 : decode cL_law 1797 = .ok (.iload 5, 2) := by decide +kernel
theorem dL_law_1799 : decode cL_law 1799 = .ok (.if_icmp .eq 5, 3) := by decide +kernel
theorem dL_law_1802 : decode cL_law 1802 = .ok (.iconst 0, 1) := by decide +kernel
theorem dL_law_1803 : decode cL_law 1803 = .ok (.ireturn, 1) := by decide +kernel
theorem dL_law_1804 : decode cL_law 1804 = .ok (.iload 5, 2) := by decide +kernel
theorem dL_law_1806 : decode cL_law 1806 = .ok (.ifCond .ne 15, 3) := by decide +kernel
theorem dL_law_1809 : decode cL_law 1809 = .ok (.aload_n 3, 1) := by decide +kernel
theorem dL_law_1810 : decode cL_law 1810 = .ok (.iconst 0, 1) := by decide +kernel
theorem dL_law_1811 : decode cL_law 1811 = .ok (.laload, 1) := by decide +kernel
theorem dL_law_1812 : decode cL_law 1812 = .ok (.iload 6, 2) := by decide +kernel
theorem dL_law_1814 : decode cL_law 1814 = .ok (.i2l, 1) := by decide +kernel
theorem dL_law_1815 : decode cL_law 1815 = .ok (.lcmp, 1) := by decide +kernel
theorem dL_law_1816 : decode cL_law 1816 = .ok (.ifCond .eq 5, 3) := by decide +kernel
theorem dL_law_1819 : decode cL_law 1819 = .ok (.iconst 0, 1) := by decide +kernel
theorem dL_law_1820 : decode cL_law 1820 = .ok (.ireturn, 1) := by decide +kernel
theorem dL_law_1821 : decode cL_law 1821 = .ok (.goto 287, 3) := by decide +kernel
theorem dL_law_1824 : decode cL_law 1824 = .ok (.aload_n 1, 1) := by decide +kernel
theorem dL_law_1825 : decode cL_law 1825 = .ok (.aload_n 0, 1) := by decide +kernel
theorem dL_law_1826 : decode cL_law 1826 = .ok (.iload 4, 2) := by decide +kernel
theorem dL_law_1828 : decode cL_law 1828 = .ok (.iconst 1, 1) := by decide +kernel
theorem dL_law_1829 : decode cL_law 1829 = .ok (.iadd, 1) := by decide +kernel
theorem dL_law_1830 : decode cL_law 1830 = .ok (.iaload, 1) := by decide +kernel
theorem dL_law_1831 : decode cL_law 1831 = .ok (.aload_n 0, 1) := by decide +kernel
theorem dL_law_1832 : decode cL_law 1832 = .ok (.iload 4, 2) := by decide +kernel
theorem dL_law_1834 : decode cL_law 1834 = .ok (.iconst 2, 1) := by decide +kernel
theorem dL_law_1835 : decode cL_law 1835 = .ok (.iadd, 1) := by decide +kernel
theorem dL_law_1836 : decode cL_law 1836 = .ok (.iaload, 1) := by decide +kernel
theorem dL_law_1837 : decode cL_law 1837 = .ok (.aload_n 0, 1) := by decide +kernel
theorem dL_law_1838 : decode cL_law 1838 = .ok (.iload 4, 2) := by decide +kernel
theorem dL_law_1840 : decode cL_law 1840 = .ok (.iconst 3, 1) := by decide +kernel
theorem dL_law_1841 : decode cL_law 1841 = .ok (.iadd, 1) := by decide +kernel
theorem dL_law_1842 : decode cL_law 1842 = .ok (.iaload, 1) := by decide +kernel
theorem dL_law_1843 : decode cL_law 1843 = .ok (.ifCond .eq 7, 3) := by decide +kernel
theorem dL_law_1846 : decode cL_law 1846 = .ok (.iconst 1, 1) := by decide +kernel
theorem dL_law_1847 : decode cL_law 1847 = .ok (.goto 4, 3) := by decide +kernel
theorem dL_law_1850 : decode cL_law 1850 = .ok (.iconst 0, 1) := by decide +kernel
theorem dL_law_1851 : decode cL_law 1851 = .ok (.aload_n 3, 1) := by decide +kernel
theorem dL_law_1852 : decode cL_law 1852 = .ok (.invokestatic 211, 3) := by decide +kernel
theorem dL_law_1855 : decode cL_law 1855 = .ok (.istore 5, 2) := by decide +kernel
theorem dL_law_1857 : decode cL_law 1857 = .ok (.aload_n 2, 1) := by decide +kernel
theorem dL_law_1858 : decode cL_law 1858 = .ok (.aload_n 0, 1) := by decide +kernel
theorem dL_law_1859 : decode cL_law 1859 = .ok (.iload 4, 2) := by decide +kernel
theorem dL_law_1861 : decode cL_law 1861 = .ok (.iconst 1, 1) := by decide +kernel
theorem dL_law_1862 : decode cL_law 1862 = .ok (.iadd, 1) := by decide +kernel
theorem dL_law_1863 : decode cL_law 1863 = .ok (.iaload, 1) := by decide +kernel
theorem dL_law_1864 : decode cL_law 1864 = .ok (.aload_n 0, 1) := by decide +kernel
theorem dL_law_1865 : decode cL_law 1865 = .ok (.iload 4, 2) := by decide +kernel
theorem dL_law_1867 : decode cL_law 1867 = .ok (.iconst 2, 1) := by decide +kernel
theorem dL_law_1868 : decode cL_law 1868 = .ok (.iadd, 1) := by decide +kernel
theorem dL_law_1869 : decode cL_law 1869 = .ok (.iaload, 1) := by decide +kernel
theorem dL_law_1870 : decode cL_law 1870 = .ok (.aload_n 0, 1) := by decide +kernel
theorem dL_law_1871 : decode cL_law 1871 = .ok (.iload 4, 2) := by decide +kernel
theorem dL_law_1873 : decode cL_law 1873 = .ok (.iconst 3, 1) := by decide +kernel
theorem dL_law_1874 : decode cL_law 1874 = .ok (.iadd, 1) := by decide +kernel
theorem dL_law_1875 : decode cL_law 1875 = .ok (.iaload, 1) := by decide +kernel
theorem dL_law_1876 : decode cL_law 1876 = .ok (.ifCond .eq 7, 3) := by decide +kernel
theorem dL_law_1879 : decode cL_law 1879 = .ok (.iconst 1, 1) := by decide +kernel
theorem dL_law_1880 : decode cL_law 1880 = .ok (.goto 4, 3) := by decide +kernel
theorem dL_law_1883 : decode cL_law 1883 = .ok (.iconst 0, 1) := by decide +kernel
theorem dL_law_1884 : decode cL_law 1884 = .ok (.invokevirtual 214, 3) := by decide +kernel
theorem dL_law_1887 : decode cL_law 1887 = .ok (.istore 6, 2) := by decide +kernel
theorem dL_law_1889 : decode cL_law 1889 = .ok (.aload_n 2, 1) := by decide +kernel
theorem dL_law_1890 : decode cL_law 1890 = .ok (.invokevirtual 120, 3) := by decide +kernel
theorem dL_law_1893 : decode cL_law 1893 = .ok (.iload 5, 2) := by decide +kernel
theorem dL_law_1895 : decode cL_law 1895 = .ok (.if_icmp .eq 5, 3) := by decide +kernel
theorem dL_law_1898 : decode cL_law 1898 = .ok (.iconst 0, 1) := by decide +kernel
theorem dL_law_1899 : decode cL_law 1899 = .ok (.ireturn, 1) := by decide +kernel
theorem dL_law_1900 : decode cL_law 1900 = .ok (.iload 5, 2) := by decide +kernel
theorem dL_law_1902 : decode cL_law 1902 = .ok (.ifCond .ne 15, 3) := by decide +kernel
theorem dL_law_1905 : decode cL_law 1905 = .ok (.aload_n 3, 1) := by decide +kernel
theorem dL_law_1906 : decode cL_law 1906 = .ok (.iconst 0, 1) := by decide +kernel
theorem dL_law_1907 : decode cL_law 1907 = .ok (.laload, 1) := by decide +kernel
theorem dL_law_1908 : decode cL_law 1908 = .ok (.iload 6, 2) := by decide +kernel
theorem dL_law_1910 : decode cL_law 1910 = .ok (.i2l, 1) := by decide +kernel
theorem dL_law_1911 : decode cL_law 1911 = .ok (.lcmp, 1) := by decide +kernel
theorem dL_law_1912 : decode cL_law 1912 = .ok (.ifCond .eq 5, 3) := by decide +kernel
theorem dL_law_1915 : decode cL_law 1915 = .ok (.iconst 0, 1) := by decide +kernel
theorem dL_law_1916 : decode cL_law 1916 = .ok (.ireturn, 1) := by decide +kernel
theorem dL_law_1917 : decode cL_law 1917 = .ok (.goto 191, 3) := by decide +kernel
theorem dL_law_1920 : decode cL_law 1920 = .ok (.aload_n 1, 1) := by decide +kernel
theorem dL_law_1921 : decode cL_law 1921 = .ok (.aload_n 0, 1) := by decide +kernel
theorem dL_law_1922 : decode cL_law 1922 = .ok (.iload 4, 2) := by decide +kernel
theorem dL_law_1924 : decode cL_law 1924 = .ok (.iconst 1, 1) := by decide +kernel
theorem dL_law_1925 : decode cL_law 1925 = .ok (.iadd, 1) := by decide +kernel
theorem dL_law_1926 : decode cL_law 1926 = .ok (.iaload, 1) := by decide +kernel
theorem dL_law_1927 : decode cL_law 1927 = .ok (.aload_n 3, 1) := by decide +kernel
theorem dL_law_1928 : decode cL_law 1928 = .ok (.invokestatic 215, 3) := by decide +kernel
theorem dL_law_1931 : decode cL_law 1931 = .ok (.istore 5, 2) := by decide +kernel
theorem dL_law_1933 : decode cL_law 1933 = .ok (.aload_n 2, 1) := by decide +kernel
theorem dL_law_1934 : decode cL_law 1934 = .ok (.aload_n 0, 1) := by decide +kernel
theorem dL_law_1935 : decode cL_law 1935 = .ok (.iload 4, 2) := by decide +kernel
theorem dL_law_1937 : decode cL_law 1937 = .ok (.iconst 1, 1) := by decide +kernel
theorem dL_law_1938 : decode cL_law 1938 = .ok (.iadd, 1) := by decide +kernel
theorem dL_law_1939 : decode cL_law 1939 = .ok (.iaload, 1) := by decide +kernel
theorem dL_law_1940 : decode cL_law 1940 = .ok (.invokevirtual 217, 3) := by decide +kernel
theorem dL_law_1943 : decode cL_law 1943 = .ok (.istore 6, 2) := by decide +kernel
theorem dL_law_1945 : decode cL_law 1945 = .ok (.aload_n 2, 1) := by decide +kernel
theorem dL_law_1946 : decode cL_law 1946 = .ok (.invokevirtual 120, 3) := by decide +kernel
theorem dL_law_1949 : decode cL_law 1949 = .ok (.iload 5, 2) := by decide +kernel
theorem dL_law_1951 : decode cL_law 1951 = .ok (.if_icmp .eq 5, 3) := by decide +kernel
theorem dL_law_1954 : decode cL_law 1954 = .ok (.iconst 0, 1) := by decide +kernel
theorem dL_law_1955 : decode cL_law 1955 = .ok (.ireturn, 1) := by decide +kernel
theorem dL_law_1956 : decode cL_law 1956 = .ok (.iload 5, 2) := by decide +kernel
theorem dL_law_1958 : decode cL_law 1958 = .ok (.ifCond .ne 15, 3) := by decide +kernel
theorem dL_law_1961 : decode cL_law 1961 = .ok (.aload_n 3, 1) := by decide +kernel
theorem dL_law_1962 : decode cL_law 1962 = .ok (.iconst 0, 1) := by decide +kernel
theorem dL_law_1963 : decode cL_law 1963 = .ok (.laload, 1) := by decide +kernel
theorem dL_law_1964 : decode cL_law 1964 = .ok (.iload 6, 2) := by decide +kernel
theorem dL_law_1966 : decode cL_law 1966 = .ok (.i2l, 1) := by decide +kernel
theorem dL_law_1967 : decode cL_law 1967 = .ok (.lcmp, 1) := by decide +kernel
theorem dL_law_1968 : decode cL_law 1968 = .ok (.ifCond .eq 5, 3) := by decide +kernel
theorem dL_law_1971 : decode cL_law 1971 = .ok (.iconst 0, 1) := by decide +kernel
theorem dL_law_1972 : decode cL_law 1972 = .ok (.ireturn, 1) := by decide +kernel
theorem dL_law_1973 : decode cL_law 1973 = .ok (.goto 135, 3) := by decide +kernel
theorem dL_law_1976 : decode cL_law 1976 = .ok (.aload_n 1, 1) := by decide +kernel
theorem dL_law_1977 : decode cL_law 1977 = .ok (.invokevirtual 218, 3) := by decide +kernel
theorem dL_law_1980 : decode cL_law 1980 = .ok (.aload_n 2, 1) := by decide +kernel
theorem dL_law_1981 : decode cL_law 1981 = .ok (.invokevirtual 221, 3) := by decide +kernel
theorem dL_law_1984 : decode cL_law 1984 = .ok (.if_icmp .eq 124, 3) := by decide +kernel
theorem dL_law_1987 : decode cL_law 1987 = .ok (.iconst 0, 1) := by decide +kernel
theorem dL_law_1988 : decode cL_law 1988 = .ok (.ireturn, 1) := by decide +kernel
theorem dL_law_1989 : decode cL_law 1989 = .ok (.aload_n 1, 1) := by decide +kernel
theorem dL_law_1990 : decode cL_law 1990 = .ok (.aload_n 0, 1) := by decide +kernel
theorem dL_law_1991 : decode cL_law 1991 = .ok (.iload 4, 2) := by decide +kernel
theorem dL_law_1993 : decode cL_law 1993 = .ok (.iconst 1, 1) := by decide +kernel
theorem dL_law_1994 : decode cL_law 1994 = .ok (.iadd, 1) := by decide +kernel
theorem dL_law_1995 : decode cL_law 1995 = .ok (.iaload, 1) := by decide +kernel
theorem dL_law_1996 : decode cL_law 1996 = .ok (.aload_n 3, 1) := by decide +kernel
theorem dL_law_1997 : decode cL_law 1997 = .ok (.invokestatic 222, 3) := by decide +kernel
theorem dL_law_2000 : decode cL_law 2000 = .ok (.istore 5, 2) := by decide +kernel
theorem dL_law_2002 : decode cL_law 2002 = .ok (.aload_n 2, 1) := by decide +kernel
theorem dL_law_2003 : decode cL_law 2003 = .ok (.aload_n 0, 1) := by decide +kernel
theorem dL_law_2004 : decode cL_law 2004 = .ok (.iload 4, 2) := by decide +kernel
theorem dL_law_2006 : decode cL_law 2006 = .ok (.iconst 1, 1) := by decide +kernel
theorem dL_law_2007 : decode cL_law 2007 = .ok (.iadd, 1) := by decide +kernel
theorem dL_law_2008 : decode cL_law 2008 = .ok (.iaload, 1) := by decide +kernel
theorem dL_law_2009 : decode cL_law 2009 = .ok (.invokevirtual 224, 3) := by decide +kernel
theorem dL_law_2012 : decode cL_law 2012 = .ok (.istore 6, 2) := by decide +kernel
theorem dL_law_2014 : decode cL_law 2014 = .ok (.aload_n 2, 1) := by decide +kernel
theorem dL_law_2015 : decode cL_law 2015 = .ok (.invokevirtual 120, 3) := by decide +kernel
theorem dL_law_2018 : decode cL_law 2018 = .ok (.iload 5, 2) := by decide +kernel
theorem dL_law_2020 : decode cL_law 2020 = .ok (.if_icmp .eq 5, 3) := by decide +kernel
theorem dL_law_2023 : decode cL_law 2023 = .ok (.iconst 0, 1) := by decide +kernel
theorem dL_law_2024 : decode cL_law 2024 = .ok (.ireturn, 1) := by decide +kernel
theorem dL_law_2025 : decode cL_law 2025 = .ok (.iload 5, 2) := by decide +kernel
theorem dL_law_2027 : decode cL_law 2027 = .ok (.ifCond .ne 22, 3) := by decide +kernel
theorem dL_law_2030 : decode cL_law 2030 = .ok (.aload_n 3, 1) := by decide +kernel
theorem dL_law_2031 : decode cL_law 2031 = .ok (.iconst 0, 1) := by decide +kernel
theorem dL_law_2032 : decode cL_law 2032 = .ok (.laload, 1) := by decide +kernel
theorem dL_law_2033 : decode cL_law 2033 = .ok (.iload 6, 2) := by decide +kernel
theorem dL_law_2035 : decode cL_law 2035 = .ok (.ifCond .eq 7, 3) := by decide +kernel
theorem dL_law_2038 : decode cL_law 2038 = .ok (.lconst 1, 1) := by decide +kernel
theorem dL_law_2039 : decode cL_law 2039 = .ok (.goto 4, 3) := by decide +kernel
theorem dL_law_2042 : decode cL_law 2042 = .ok (.lconst 0, 1) := by decide +kernel
theorem dL_law_2043 : decode cL_law 2043 = .ok (.lcmp, 1) := by decide +kernel
theorem dL_law_2044 : decode cL_law 2044 = .ok (.ifCond .eq 5, 3) := by decide +kernel
theorem dL_law_2047 : decode cL_law 2047 = .ok (.iconst 0, 1) := by decide +kernel
theorem dL_law_2048 : decode cL_law 2048 = .ok (.ireturn, 1) := by decide +kernel
theorem dL_law_2049 : decode cL_law 2049 = .ok (.goto 59, 3) := by decide +kernel
theorem dL_law_2052 : decode cL_law 2052 = .ok (.aload_n 1, 1) := by decide +kernel
theorem dL_law_2053 : decode cL_law 2053 = .ok (.aload_n 0, 1) := by decide +kernel
theorem dL_law_2054 : decode cL_law 2054 = .ok (.iload 4, 2) := by decide +kernel
theorem dL_law_2056 : decode cL_law 2056 = .ok (.iconst 1, 1) := by decide +kernel
theorem dL_law_2057 : decode cL_law 2057 = .ok (.iadd, 1) := by decide +kernel
theorem dL_law_2058 : decode cL_law 2058 = .ok (.iaload, 1) := by decide +kernel
theorem dL_law_2059 : decode cL_law 2059 = .ok (.aload_n 3, 1) := by decide +kernel
theorem dL_law_2060 : decode cL_law 2060 = .ok (.invokestatic 225, 3) := by decide +kernel
theorem dL_law_2063 : decode cL_law 2063 = .ok (.istore 5, 2) := by decide +kernel
theorem dL_law_2065 : decode cL_law 2065 = .ok (.aload_n 2, 1) := by decide +kernel
theorem dL_law_2066 : decode cL_law 2066 = .ok (.aload_n 0, 1) := by decide +kernel
theorem dL_law_2067 : decode cL_law 2067 = .ok (.iload 4, 2) := by decide +kernel
theorem dL_law_2069 : decode cL_law 2069 = .ok (.iconst 1, 1) := by decide +kernel
theorem dL_law_2070 : decode cL_law 2070 = .ok (.iadd, 1) := by decide +kernel
theorem dL_law_2071 : decode cL_law 2071 = .ok (.iaload, 1) := by decide +kernel
theorem dL_law_2072 : decode cL_law 2072 = .ok (.invokevirtual 227, 3) := by decide +kernel
theorem dL_law_2075 : decode cL_law 2075 = .ok (.istore 6, 2) := by decide +kernel
theorem dL_law_2077 : decode cL_law 2077 = .ok (.aload_n 2, 1) := by decide +kernel
theorem dL_law_2078 : decode cL_law 2078 = .ok (.invokevirtual 120, 3) := by decide +kernel
theorem dL_law_2081 : decode cL_law 2081 = .ok (.iload 5, 2) := by decide +kernel
theorem dL_law_2083 : decode cL_law 2083 = .ok (.if_icmp .eq 5, 3) := by decide +kernel
theorem dL_law_2086 : decode cL_law 2086 = .ok (.iconst 0, 1) := by decide +kernel
theorem dL_law_2087 : decode cL_law 2087 = .ok (.ireturn, 1) := by decide +kernel
theorem dL_law_2088 : decode cL_law 2088 = .ok (.iload 5, 2) := by decide +kernel
theorem dL_law_2090 : decode cL_law 2090 = .ok (.ifCond .ne 15, 3) := by decide +kernel
theorem dL_law_2093 : decode cL_law 2093 = .ok (.aload_n 3, 1) := by decide +kernel
theorem dL_law_2094 : decode cL_law 2094 = .ok (.iconst 0, 1) := by decide +kernel
theorem dL_law_2095 : decode cL_law 2095 = .ok (.laload, 1) := by decide +kernel
theorem dL_law_2096 : decode cL_law 2096 = .ok (.iload 6, 2) := by decide +kernel
theorem dL_law_2098 : decode cL_law 2098 = .ok (.i2l, 1) := by decide +kernel
theorem dL_law_2099 : decode cL_law 2099 = .ok (.lcmp, 1) := by decide +kernel
theorem dL_law_2100 : decode cL_law 2100 = .ok (.ifCond .eq 5, 3) := by decide +kernel
theorem dL_law_2103 : decode cL_law 2103 = .ok (.iconst 0, 1) := by decide +kernel
theorem dL_law_2104 : decode cL_law 2104 = .ok (.ireturn, 1) := by decide +kernel
theorem dL_law_2105 : decode cL_law 2105 = .ok (.goto 3, 3) := by decide +kernel
theorem dL_law_2108 : decode cL_law 2108 = .ok (.iinc 4 6, 3) := by decide +kernel
theorem dL_law_2111 : decode cL_law 2111 = .ok (.goto (-2088), 3) := by decide +kernel
theorem dL_law_2114 : decode cL_law 2114 = .ok (.iconst 1, 1) := by decide +kernel
theorem dL_law_2115 : decode cL_law 2115 = .ok (.ireturn, 1) := by decide +kernel
end
