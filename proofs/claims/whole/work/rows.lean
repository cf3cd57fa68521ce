section
-- ===== PART A: goes FIRST, ahead of the names: the tables' words, and 'selects' of the private methods out of them =====
/-- a private method of a class that the tables say can be made, by its rows of tables_1 -/
def lw_okq (q : MethodName × Nat) : Prop := (q.1.cls ≠ "java/lang/invoke/MethodHandle" ∧ q.1.cls ≠ "java/lang/invoke/VarHandle") ∧ Cond.instantiable q.1.cls q.2 ∈ tables_1 ∧ Cond.privateMethod q.1 ∈ tables_1 ∧ Cond.instanceMethod q.1 ∈ tables_1
theorem lw_p0 : lw_okq (⟨"FuseMinutes$Reader", "next", "()V"⟩, 11) := ⟨⟨by decide +kernel, by decide +kernel⟩, List.mem_of_getElem? (i := 166) (by decide +kernel), List.mem_of_getElem? (i := 411) (by decide +kernel), List.mem_of_getElem? (i := 412) (by decide +kernel)⟩
theorem lw_p1 : lw_okq (⟨"FuseMinutes$Reader", "byteAt", "(I)I"⟩, 11) := ⟨⟨by decide +kernel, by decide +kernel⟩, List.mem_of_getElem? (i := 166) (by decide +kernel), List.mem_of_getElem? (i := 415) (by decide +kernel), List.mem_of_getElem? (i := 416) (by decide +kernel)⟩
theorem lw_p2 : lw_okq (⟨"FuseMinutes$Reader", "nextWord", "()I"⟩, 11) := ⟨⟨by decide +kernel, by decide +kernel⟩, List.mem_of_getElem? (i := 166) (by decide +kernel), List.mem_of_getElem? (i := 422) (by decide +kernel), List.mem_of_getElem? (i := 423) (by decide +kernel)⟩
theorem lw_p3 : lw_okq (⟨"FuseMinutes$Reader", "spells", "(I)Z"⟩, 11) := ⟨⟨by decide +kernel, by decide +kernel⟩, List.mem_of_getElem? (i := 166) (by decide +kernel), List.mem_of_getElem? (i := 475) (by decide +kernel), List.mem_of_getElem? (i := 476) (by decide +kernel)⟩
theorem lw_p4 : lw_okq (⟨"FuseMinutes$Reader", "nextNumber", "()I"⟩, 11) := ⟨⟨by decide +kernel, by decide +kernel⟩, List.mem_of_getElem? (i := 166) (by decide +kernel), List.mem_of_getElem? (i := 482) (by decide +kernel), List.mem_of_getElem? (i := 483) (by decide +kernel)⟩
theorem lw_p5 : lw_okq (⟨"FuseMinutes$Reader", "nextSign", "(I)I"⟩, 11) := ⟨⟨by decide +kernel, by decide +kernel⟩, List.mem_of_getElem? (i := 166) (by decide +kernel), List.mem_of_getElem? (i := 489) (by decide +kernel), List.mem_of_getElem? (i := 490) (by decide +kernel)⟩
theorem lw_p6 : lw_okq (⟨"FuseMinutes$Reader", "readClause", "(I)V"⟩, 11) := ⟨⟨by decide +kernel, by decide +kernel⟩, List.mem_of_getElem? (i := 166) (by decide +kernel), List.mem_of_getElem? (i := 551) (by decide +kernel), List.mem_of_getElem? (i := 552) (by decide +kernel)⟩
theorem lw_p7 : lw_okq (⟨"FuseMinutes$Reader", "fail", "(I)V"⟩, 11) := ⟨⟨by decide +kernel, by decide +kernel⟩, List.mem_of_getElem? (i := 166) (by decide +kernel), List.mem_of_getElem? (i := 555) (by decide +kernel), List.mem_of_getElem? (i := 556) (by decide +kernel)⟩
theorem lw_p8 : lw_okq (⟨"FuseMinutes$Reader", "readLaw", "(I)V"⟩, 11) := ⟨⟨by decide +kernel, by decide +kernel⟩, List.mem_of_getElem? (i := 166) (by decide +kernel), List.mem_of_getElem? (i := 563) (by decide +kernel), List.mem_of_getElem? (i := 564) (by decide +kernel)⟩
theorem lw_p9 : lw_okq (⟨"FuseMinutes$Reader", "readSum", "()V"⟩, 11) := ⟨⟨by decide +kernel, by decide +kernel⟩, List.mem_of_getElem? (i := 166) (by decide +kernel), List.mem_of_getElem? (i := 567) (by decide +kernel), List.mem_of_getElem? (i := 568) (by decide +kernel)⟩
theorem lw_p10 : lw_okq (⟨"FuseMinutes$Reader", "readProduct", "()V"⟩, 11) := ⟨⟨by decide +kernel, by decide +kernel⟩, List.mem_of_getElem? (i := 166) (by decide +kernel), List.mem_of_getElem? (i := 571) (by decide +kernel), List.mem_of_getElem? (i := 572) (by decide +kernel)⟩
theorem lw_p11 : lw_okq (⟨"FuseMinutes$Reader", "readOne", "()V"⟩, 11) := ⟨⟨by decide +kernel, by decide +kernel⟩, List.mem_of_getElem? (i := 166) (by decide +kernel), List.mem_of_getElem? (i := 575) (by decide +kernel), List.mem_of_getElem? (i := 576) (by decide +kernel)⟩
theorem lw_p12 : lw_okq (⟨"FuseMinutes$Reader", "readOpening", "(I)V"⟩, 11) := ⟨⟨by decide +kernel, by decide +kernel⟩, List.mem_of_getElem? (i := 166) (by decide +kernel), List.mem_of_getElem? (i := 586) (by decide +kernel), List.mem_of_getElem? (i := 587) (by decide +kernel)⟩
theorem lw_p13 : lw_okq (⟨"FuseMinutes$Reader", "opens", "()Z"⟩, 11) := ⟨⟨by decide +kernel, by decide +kernel⟩, List.mem_of_getElem? (i := 166) (by decide +kernel), List.mem_of_getElem? (i := 590) (by decide +kernel), List.mem_of_getElem? (i := 591) (by decide +kernel)⟩
theorem lw_p14 : lw_okq (⟨"FuseMinutes$Reader", "expect", "(I)V"⟩, 11) := ⟨⟨by decide +kernel, by decide +kernel⟩, List.mem_of_getElem? (i := 166) (by decide +kernel), List.mem_of_getElem? (i := 594) (by decide +kernel), List.mem_of_getElem? (i := 595) (by decide +kernel)⟩
theorem lw_p15 : lw_okq (⟨"FuseMinutes$Reader", "readIf", "()V"⟩, 11) := ⟨⟨by decide +kernel, by decide +kernel⟩, List.mem_of_getElem? (i := 166) (by decide +kernel), List.mem_of_getElem? (i := 598) (by decide +kernel), List.mem_of_getElem? (i := 599) (by decide +kernel)⟩
def lw_privs_1 : List (MethodName × Nat) := [(⟨"FuseMinutes$Reader", "next", "()V"⟩, 11), (⟨"FuseMinutes$Reader", "byteAt", "(I)I"⟩, 11), (⟨"FuseMinutes$Reader", "nextWord", "()I"⟩, 11), (⟨"FuseMinutes$Reader", "spells", "(I)Z"⟩, 11), (⟨"FuseMinutes$Reader", "nextNumber", "()I"⟩, 11), (⟨"FuseMinutes$Reader", "nextSign", "(I)I"⟩, 11), (⟨"FuseMinutes$Reader", "readClause", "(I)V"⟩, 11), (⟨"FuseMinutes$Reader", "fail", "(I)V"⟩, 11), (⟨"FuseMinutes$Reader", "readLaw", "(I)V"⟩, 11), (⟨"FuseMinutes$Reader", "readSum", "()V"⟩, 11), (⟨"FuseMinutes$Reader", "readProduct", "()V"⟩, 11), (⟨"FuseMinutes$Reader", "readOne", "()V"⟩, 11), (⟨"FuseMinutes$Reader", "readOpening", "(I)V"⟩, 11), (⟨"FuseMinutes$Reader", "opens", "()Z"⟩, 11), (⟨"FuseMinutes$Reader", "expect", "(I)V"⟩, 11), (⟨"FuseMinutes$Reader", "readIf", "()V"⟩, 11)]
theorem lw_r1 : ∀ q ∈ lw_privs_1, lw_okq q := List.forall_mem_cons.mpr ⟨lw_p0, List.forall_mem_cons.mpr ⟨lw_p1, List.forall_mem_cons.mpr ⟨lw_p2, List.forall_mem_cons.mpr ⟨lw_p3, List.forall_mem_cons.mpr ⟨lw_p4, List.forall_mem_cons.mpr ⟨lw_p5, List.forall_mem_cons.mpr ⟨lw_p6, List.forall_mem_cons.mpr ⟨lw_p7, List.forall_mem_cons.mpr ⟨lw_p8, List.forall_mem_cons.mpr ⟨lw_p9, List.forall_mem_cons.mpr ⟨lw_p10, List.forall_mem_cons.mpr ⟨lw_p11, List.forall_mem_cons.mpr ⟨lw_p12, List.forall_mem_cons.mpr ⟨lw_p13, List.forall_mem_cons.mpr ⟨lw_p14, List.forall_mem_cons.mpr ⟨lw_p15, fun _ h => absurd h List.not_mem_nil⟩⟩⟩⟩⟩⟩⟩⟩⟩⟩⟩⟩⟩⟩⟩⟩
theorem lw_p16 : lw_okq (⟨"FuseMinutes$Reader", "readEither", "()V"⟩, 11) := ⟨⟨by decide +kernel, by decide +kernel⟩, List.mem_of_getElem? (i := 166) (by decide +kernel), List.mem_of_getElem? (i := 602) (by decide +kernel), List.mem_of_getElem? (i := 603) (by decide +kernel)⟩
theorem lw_p17 : lw_okq (⟨"FuseMinutes$Reader", "readBoth", "()V"⟩, 11) := ⟨⟨by decide +kernel, by decide +kernel⟩, List.mem_of_getElem? (i := 166) (by decide +kernel), List.mem_of_getElem? (i := 606) (by decide +kernel), List.mem_of_getElem? (i := 607) (by decide +kernel)⟩
theorem lw_p18 : lw_okq (⟨"FuseMinutes$Reader", "readAsk", "()V"⟩, 11) := ⟨⟨by decide +kernel, by decide +kernel⟩, List.mem_of_getElem? (i := 166) (by decide +kernel), List.mem_of_getElem? (i := 610) (by decide +kernel), List.mem_of_getElem? (i := 611) (by decide +kernel)⟩
theorem lw_p19 : lw_okq (⟨"FuseMinutes$Reader", "readAct", "(I)V"⟩, 11) := ⟨⟨by decide +kernel, by decide +kernel⟩, List.mem_of_getElem? (i := 166) (by decide +kernel), List.mem_of_getElem? (i := 621) (by decide +kernel), List.mem_of_getElem? (i := 622) (by decide +kernel)⟩
theorem lw_p20 : lw_okq (⟨"FuseMinutes$Reader", "readNumber", "(II)I"⟩, 11) := ⟨⟨by decide +kernel, by decide +kernel⟩, List.mem_of_getElem? (i := 166) (by decide +kernel), List.mem_of_getElem? (i := 625) (by decide +kernel), List.mem_of_getElem? (i := 626) (by decide +kernel)⟩
theorem lw_p21 : lw_okq (⟨"FuseMinutes", "hasText", "(I)Z"⟩, 7) := ⟨⟨by decide +kernel, by decide +kernel⟩, List.mem_of_getElem? (i := 24) (by decide +kernel), List.mem_of_getElem? (i := 639) (by decide +kernel), List.mem_of_getElem? (i := 640) (by decide +kernel)⟩
theorem lw_p22 : lw_okq (⟨"FuseMinutes", "canLight", "(II)Z"⟩, 7) := ⟨⟨by decide +kernel, by decide +kernel⟩, List.mem_of_getElem? (i := 24) (by decide +kernel), List.mem_of_getElem? (i := 647) (by decide +kernel), List.mem_of_getElem? (i := 648) (by decide +kernel)⟩
theorem lw_p23 : lw_okq (⟨"FuseMinutes", "lightsSays", "(II)I"⟩, 7) := ⟨⟨by decide +kernel, by decide +kernel⟩, List.mem_of_getElem? (i := 24) (by decide +kernel), List.mem_of_getElem? (i := 660) (by decide +kernel), List.mem_of_getElem? (i := 661) (by decide +kernel)⟩
theorem lw_p24 : lw_okq (⟨"FuseMinutes$Sums", "leaf", "(I)J"⟩, 4) := ⟨⟨by decide +kernel, by decide +kernel⟩, List.mem_of_getElem? (i := 211) (by decide +kernel), List.mem_of_getElem? (i := 672) (by decide +kernel), List.mem_of_getElem? (i := 673) (by decide +kernel)⟩
theorem lw_p25 : lw_okq (⟨"FuseMinutes$Sums", "result", "(IJJJ)J"⟩, 4) := ⟨⟨by decide +kernel, by decide +kernel⟩, List.mem_of_getElem? (i := 211) (by decide +kernel), List.mem_of_getElem? (i := 680) (by decide +kernel), List.mem_of_getElem? (i := 681) (by decide +kernel)⟩
theorem lw_p26 : lw_okq (⟨"FuseMinutes$Sums", "isOut", "(J)Z"⟩, 4) := ⟨⟨by decide +kernel, by decide +kernel⟩, List.mem_of_getElem? (i := 211) (by decide +kernel), List.mem_of_getElem? (i := 687) (by decide +kernel), List.mem_of_getElem? (i := 688) (by decide +kernel)⟩
theorem lw_p27 : lw_okq (⟨"FuseMinutes", "kindle", "(II)I"⟩, 7) := ⟨⟨by decide +kernel, by decide +kernel⟩, List.mem_of_getElem? (i := 24) (by decide +kernel), List.mem_of_getElem? (i := 719) (by decide +kernel), List.mem_of_getElem? (i := 720) (by decide +kernel)⟩
theorem lw_p28 : lw_okq (⟨"FuseMinutes", "failsSays", "(II)I"⟩, 7) := ⟨⟨by decide +kernel, by decide +kernel⟩, List.mem_of_getElem? (i := 24) (by decide +kernel), List.mem_of_getElem? (i := 723) (by decide +kernel), List.mem_of_getElem? (i := 724) (by decide +kernel)⟩
theorem lw_p29 : lw_okq (⟨"FuseMinutes$Pit", "writeDown", "(III)V"⟩, 8) := ⟨⟨by decide +kernel, by decide +kernel⟩, List.mem_of_getElem? (i := 38) (by decide +kernel), List.mem_of_getElem? (i := 735) (by decide +kernel), List.mem_of_getElem? (i := 736) (by decide +kernel)⟩
theorem lw_p30 : lw_okq (⟨"FuseMinutes", "canRenew", "(I)Z"⟩, 7) := ⟨⟨by decide +kernel, by decide +kernel⟩, List.mem_of_getElem? (i := 24) (by decide +kernel), List.mem_of_getElem? (i := 751) (by decide +kernel), List.mem_of_getElem? (i := 752) (by decide +kernel)⟩
theorem lw_p31 : lw_okq (⟨"FuseMinutes$Pit", "passWithin", "(I)I"⟩, 8) := ⟨⟨by decide +kernel, by decide +kernel⟩, List.mem_of_getElem? (i := 38) (by decide +kernel), List.mem_of_getElem? (i := 784) (by decide +kernel), List.mem_of_getElem? (i := 785) (by decide +kernel)⟩
def lw_privs_2 : List (MethodName × Nat) := [(⟨"FuseMinutes$Reader", "readEither", "()V"⟩, 11), (⟨"FuseMinutes$Reader", "readBoth", "()V"⟩, 11), (⟨"FuseMinutes$Reader", "readAsk", "()V"⟩, 11), (⟨"FuseMinutes$Reader", "readAct", "(I)V"⟩, 11), (⟨"FuseMinutes$Reader", "readNumber", "(II)I"⟩, 11), (⟨"FuseMinutes", "hasText", "(I)Z"⟩, 7), (⟨"FuseMinutes", "canLight", "(II)Z"⟩, 7), (⟨"FuseMinutes", "lightsSays", "(II)I"⟩, 7), (⟨"FuseMinutes$Sums", "leaf", "(I)J"⟩, 4), (⟨"FuseMinutes$Sums", "result", "(IJJJ)J"⟩, 4), (⟨"FuseMinutes$Sums", "isOut", "(J)Z"⟩, 4), (⟨"FuseMinutes", "kindle", "(II)I"⟩, 7), (⟨"FuseMinutes", "failsSays", "(II)I"⟩, 7), (⟨"FuseMinutes$Pit", "writeDown", "(III)V"⟩, 8), (⟨"FuseMinutes", "canRenew", "(I)Z"⟩, 7), (⟨"FuseMinutes$Pit", "passWithin", "(I)I"⟩, 8)]
theorem lw_r2 : ∀ q ∈ lw_privs_2, lw_okq q := List.forall_mem_cons.mpr ⟨lw_p16, List.forall_mem_cons.mpr ⟨lw_p17, List.forall_mem_cons.mpr ⟨lw_p18, List.forall_mem_cons.mpr ⟨lw_p19, List.forall_mem_cons.mpr ⟨lw_p20, List.forall_mem_cons.mpr ⟨lw_p21, List.forall_mem_cons.mpr ⟨lw_p22, List.forall_mem_cons.mpr ⟨lw_p23, List.forall_mem_cons.mpr ⟨lw_p24, List.forall_mem_cons.mpr ⟨lw_p25, List.forall_mem_cons.mpr ⟨lw_p26, List.forall_mem_cons.mpr ⟨lw_p27, List.forall_mem_cons.mpr ⟨lw_p28, List.forall_mem_cons.mpr ⟨lw_p29, List.forall_mem_cons.mpr ⟨lw_p30, List.forall_mem_cons.mpr ⟨lw_p31, fun _ h => absurd h List.not_mem_nil⟩⟩⟩⟩⟩⟩⟩⟩⟩⟩⟩⟩⟩⟩⟩⟩
theorem lw_p32 : lw_okq (⟨"FuseMinutes", "carriedOut", "(III)Z"⟩, 7) := ⟨⟨by decide +kernel, by decide +kernel⟩, List.mem_of_getElem? (i := 24) (by decide +kernel), List.mem_of_getElem? (i := 801) (by decide +kernel), List.mem_of_getElem? (i := 802) (by decide +kernel)⟩
theorem lw_p33 : lw_okq (⟨"FuseMinutes", "minutesPassed", "(I)Z"⟩, 7) := ⟨⟨by decide +kernel, by decide +kernel⟩, List.mem_of_getElem? (i := 24) (by decide +kernel), List.mem_of_getElem? (i := 811) (by decide +kernel), List.mem_of_getElem? (i := 812) (by decide +kernel)⟩
theorem lw_p34 : lw_okq (⟨"FuseMinutes", "shiftBy", "(I)V"⟩, 7) := ⟨⟨by decide +kernel, by decide +kernel⟩, List.mem_of_getElem? (i := 24) (by decide +kernel), List.mem_of_getElem? (i := 820) (by decide +kernel), List.mem_of_getElem? (i := 821) (by decide +kernel)⟩
theorem lw_p35 : lw_okq (⟨"FuseMinutes", "shiftCord", "(III)V"⟩, 7) := ⟨⟨by decide +kernel, by decide +kernel⟩, List.mem_of_getElem? (i := 24) (by decide +kernel), List.mem_of_getElem? (i := 824) (by decide +kernel), List.mem_of_getElem? (i := 825) (by decide +kernel)⟩
theorem lw_p36 : lw_okq (⟨"FuseMinutes", "isSet", "(I)Z"⟩, 7) := ⟨⟨by decide +kernel, by decide +kernel⟩, List.mem_of_getElem? (i := 24) (by decide +kernel), List.mem_of_getElem? (i := 870) (by decide +kernel), List.mem_of_getElem? (i := 871) (by decide +kernel)⟩
theorem lw_p37 : lw_okq (⟨"FuseMinutes", "allCords", "()I"⟩, 7) := ⟨⟨by decide +kernel, by decide +kernel⟩, List.mem_of_getElem? (i := 24) (by decide +kernel), List.mem_of_getElem? (i := 874) (by decide +kernel), List.mem_of_getElem? (i := 875) (by decide +kernel)⟩
theorem lw_p38 : lw_okq (⟨"FuseMinutes$Rows", "learn", "(I)V"⟩, 14) := ⟨⟨by decide +kernel, by decide +kernel⟩, List.mem_of_getElem? (i := 230) (by decide +kernel), List.mem_of_getElem? (i := 882) (by decide +kernel), List.mem_of_getElem? (i := 883) (by decide +kernel)⟩
theorem lw_p39 : lw_okq (⟨"FuseMinutes$Rows", "begin", "(III)V"⟩, 14) := ⟨⟨by decide +kernel, by decide +kernel⟩, List.mem_of_getElem? (i := 230) (by decide +kernel), List.mem_of_getElem? (i := 886) (by decide +kernel), List.mem_of_getElem? (i := 887) (by decide +kernel)⟩
theorem lw_p40 : lw_okq (⟨"FuseMinutes$Rows", "walk", "(I)Z"⟩, 14) := ⟨⟨by decide +kernel, by decide +kernel⟩, List.mem_of_getElem? (i := 230) (by decide +kernel), List.mem_of_getElem? (i := 890) (by decide +kernel), List.mem_of_getElem? (i := 891) (by decide +kernel)⟩
theorem lw_p41 : lw_okq (⟨"FuseMinutes$Rows", "burnOn", "(I)Z"⟩, 14) := ⟨⟨by decide +kernel, by decide +kernel⟩, List.mem_of_getElem? (i := 230) (by decide +kernel), List.mem_of_getElem? (i := 894) (by decide +kernel), List.mem_of_getElem? (i := 895) (by decide +kernel)⟩
theorem lw_p42 : lw_okq (⟨"FuseMinutes$Rows", "arrive", "(I)Z"⟩, 14) := ⟨⟨by decide +kernel, by decide +kernel⟩, List.mem_of_getElem? (i := 230) (by decide +kernel), List.mem_of_getElem? (i := 900) (by decide +kernel), List.mem_of_getElem? (i := 901) (by decide +kernel)⟩
theorem lw_p43 : lw_okq (⟨"FuseMinutes$Rows", "chooseNext", "(I)Z"⟩, 14) := ⟨⟨by decide +kernel, by decide +kernel⟩, List.mem_of_getElem? (i := 230) (by decide +kernel), List.mem_of_getElem? (i := 904) (by decide +kernel), List.mem_of_getElem? (i := 905) (by decide +kernel)⟩
theorem lw_p44 : lw_okq (⟨"FuseMinutes$Rows", "spanInWord", "(III)I"⟩, 14) := ⟨⟨by decide +kernel, by decide +kernel⟩, List.mem_of_getElem? (i := 230) (by decide +kernel), List.mem_of_getElem? (i := 918) (by decide +kernel), List.mem_of_getElem? (i := 919) (by decide +kernel)⟩
theorem lw_p45 : lw_okq (⟨"FuseMinutes$Rows", "marked", "(II)Z"⟩, 14) := ⟨⟨by decide +kernel, by decide +kernel⟩, List.mem_of_getElem? (i := 230) (by decide +kernel), List.mem_of_getElem? (i := 922) (by decide +kernel), List.mem_of_getElem? (i := 923) (by decide +kernel)⟩
theorem lw_p46 : lw_okq (⟨"FuseMinutes$Rows", "nextMarked", "(III)I"⟩, 14) := ⟨⟨by decide +kernel, by decide +kernel⟩, List.mem_of_getElem? (i := 230) (by decide +kernel), List.mem_of_getElem? (i := 977) (by decide +kernel), List.mem_of_getElem? (i := 978) (by decide +kernel)⟩
theorem lw_p47 : lw_okq (⟨"FuseMinutes", "findBundle", "()Z"⟩, 7) := ⟨⟨by decide +kernel, by decide +kernel⟩, List.mem_of_getElem? (i := 24) (by decide +kernel), List.mem_of_getElem? (i := 993) (by decide +kernel), List.mem_of_getElem? (i := 994) (by decide +kernel)⟩
def lw_privs_3 : List (MethodName × Nat) := [(⟨"FuseMinutes", "carriedOut", "(III)Z"⟩, 7), (⟨"FuseMinutes", "minutesPassed", "(I)Z"⟩, 7), (⟨"FuseMinutes", "shiftBy", "(I)V"⟩, 7), (⟨"FuseMinutes", "shiftCord", "(III)V"⟩, 7), (⟨"FuseMinutes", "isSet", "(I)Z"⟩, 7), (⟨"FuseMinutes", "allCords", "()I"⟩, 7), (⟨"FuseMinutes$Rows", "learn", "(I)V"⟩, 14), (⟨"FuseMinutes$Rows", "begin", "(III)V"⟩, 14), (⟨"FuseMinutes$Rows", "walk", "(I)Z"⟩, 14), (⟨"FuseMinutes$Rows", "burnOn", "(I)Z"⟩, 14), (⟨"FuseMinutes$Rows", "arrive", "(I)Z"⟩, 14), (⟨"FuseMinutes$Rows", "chooseNext", "(I)Z"⟩, 14), (⟨"FuseMinutes$Rows", "spanInWord", "(III)I"⟩, 14), (⟨"FuseMinutes$Rows", "marked", "(II)Z"⟩, 14), (⟨"FuseMinutes$Rows", "nextMarked", "(III)I"⟩, 14), (⟨"FuseMinutes", "findBundle", "()Z"⟩, 7)]
theorem lw_r3 : ∀ q ∈ lw_privs_3, lw_okq q := List.forall_mem_cons.mpr ⟨lw_p32, List.forall_mem_cons.mpr ⟨lw_p33, List.forall_mem_cons.mpr ⟨lw_p34, List.forall_mem_cons.mpr ⟨lw_p35, List.forall_mem_cons.mpr ⟨lw_p36, List.forall_mem_cons.mpr ⟨lw_p37, List.forall_mem_cons.mpr ⟨lw_p38, List.forall_mem_cons.mpr ⟨lw_p39, List.forall_mem_cons.mpr ⟨lw_p40, List.forall_mem_cons.mpr ⟨lw_p41, List.forall_mem_cons.mpr ⟨lw_p42, List.forall_mem_cons.mpr ⟨lw_p43, List.forall_mem_cons.mpr ⟨lw_p44, List.forall_mem_cons.mpr ⟨lw_p45, List.forall_mem_cons.mpr ⟨lw_p46, List.forall_mem_cons.mpr ⟨lw_p47, fun _ h => absurd h List.not_mem_nil⟩⟩⟩⟩⟩⟩⟩⟩⟩⟩⟩⟩⟩⟩⟩⟩
theorem lw_p48 : lw_okq (⟨"FuseMinutes", "setsGiving", "(I)I"⟩, 7) := ⟨⟨by decide +kernel, by decide +kernel⟩, List.mem_of_getElem? (i := 24) (by decide +kernel), List.mem_of_getElem? (i := 1003) (by decide +kernel), List.mem_of_getElem? (i := 1004) (by decide +kernel)⟩
theorem lw_p49 : lw_okq (⟨"FuseMinutes$Bundles", "shareOut", "(I)V"⟩, 4) := ⟨⟨by decide +kernel, by decide +kernel⟩, List.mem_of_getElem? (i := 282) (by decide +kernel), List.mem_of_getElem? (i := 1011) (by decide +kernel), List.mem_of_getElem? (i := 1012) (by decide +kernel)⟩
theorem lw_p50 : lw_okq (⟨"FuseMinutes$Bundles", "givesAll", "()Z"⟩, 4) := ⟨⟨by decide +kernel, by decide +kernel⟩, List.mem_of_getElem? (i := 282) (by decide +kernel), List.mem_of_getElem? (i := 1015) (by decide +kernel), List.mem_of_getElem? (i := 1016) (by decide +kernel)⟩
theorem lw_p51 : lw_okq (⟨"FuseMinutes$Bundles", "rank", "(LFuseMinutes$Store;)J"⟩, 4) := ⟨⟨by decide +kernel, by decide +kernel⟩, List.mem_of_getElem? (i := 282) (by decide +kernel), List.mem_of_getElem? (i := 1019) (by decide +kernel), List.mem_of_getElem? (i := 1020) (by decide +kernel)⟩
theorem lw_p52 : lw_okq (⟨"FuseMinutes", "suspectSets", "()I"⟩, 7) := ⟨⟨by decide +kernel, by decide +kernel⟩, List.mem_of_getElem? (i := 24) (by decide +kernel), List.mem_of_getElem? (i := 1071) (by decide +kernel), List.mem_of_getElem? (i := 1072) (by decide +kernel)⟩
theorem lw_p53 : lw_okq (⟨"FuseMinutes", "agreesWithAllSaid", "(I)Z"⟩, 7) := ⟨⟨by decide +kernel, by decide +kernel⟩, List.mem_of_getElem? (i := 24) (by decide +kernel), List.mem_of_getElem? (i := 1123) (by decide +kernel), List.mem_of_getElem? (i := 1124) (by decide +kernel)⟩
theorem lw_p54 : lw_okq (⟨"FuseMinutesModel", "forget", "()V"⟩, 37) := ⟨⟨by decide +kernel, by decide +kernel⟩, List.mem_of_getElem? (i := 1169) (by decide +kernel), List.mem_of_getElem? (i := 1179) (by decide +kernel), List.mem_of_getElem? (i := 1180) (by decide +kernel)⟩
theorem lw_p55 : lw_okq (⟨"FuseMinutesModel", "begin", "(I)V"⟩, 37) := ⟨⟨by decide +kernel, by decide +kernel⟩, List.mem_of_getElem? (i := 1169) (by decide +kernel), List.mem_of_getElem? (i := 1303) (by decide +kernel), List.mem_of_getElem? (i := 1304) (by decide +kernel)⟩
theorem lw_p56 : lw_okq (⟨"FuseMinutesModel", "full", "(I)I"⟩, 37) := ⟨⟨by decide +kernel, by decide +kernel⟩, List.mem_of_getElem? (i := 1169) (by decide +kernel), List.mem_of_getElem? (i := 1307) (by decide +kernel), List.mem_of_getElem? (i := 1308) (by decide +kernel)⟩
theorem lw_p57 : lw_okq (⟨"FuseMinutesModel", "put", "(III)V"⟩, 37) := ⟨⟨by decide +kernel, by decide +kernel⟩, List.mem_of_getElem? (i := 1169) (by decide +kernel), List.mem_of_getElem? (i := 1311) (by decide +kernel), List.mem_of_getElem? (i := 1312) (by decide +kernel)⟩
theorem lw_p58 : lw_okq (⟨"FuseMinutesModel", "isCord", "(I)Z"⟩, 37) := ⟨⟨by decide +kernel, by decide +kernel⟩, List.mem_of_getElem? (i := 1169) (by decide +kernel), List.mem_of_getElem? (i := 1323) (by decide +kernel), List.mem_of_getElem? (i := 1324) (by decide +kernel)⟩
theorem lw_p59 : lw_okq (⟨"FuseMinutesModel", "four", "(I)V"⟩, 37) := ⟨⟨by decide +kernel, by decide +kernel⟩, List.mem_of_getElem? (i := 1169) (by decide +kernel), List.mem_of_getElem? (i := 1331) (by decide +kernel), List.mem_of_getElem? (i := 1332) (by decide +kernel)⟩
theorem lw_p60 : lw_okq (⟨"FuseMinutesModel", "readText", "()I"⟩, 37) := ⟨⟨by decide +kernel, by decide +kernel⟩, List.mem_of_getElem? (i := 1169) (by decide +kernel), List.mem_of_getElem? (i := 1343) (by decide +kernel), List.mem_of_getElem? (i := 1344) (by decide +kernel)⟩
theorem lw_p61 : lw_okq (⟨"FuseMinutesModel", "nextToken", "()V"⟩, 37) := ⟨⟨by decide +kernel, by decide +kernel⟩, List.mem_of_getElem? (i := 1169) (by decide +kernel), List.mem_of_getElem? (i := 1347) (by decide +kernel), List.mem_of_getElem? (i := 1348) (by decide +kernel)⟩
theorem lw_p62 : lw_okq (⟨"FuseMinutesModel", "byteAt", "(I)I"⟩, 37) := ⟨⟨by decide +kernel, by decide +kernel⟩, List.mem_of_getElem? (i := 1169) (by decide +kernel), List.mem_of_getElem? (i := 1351) (by decide +kernel), List.mem_of_getElem? (i := 1352) (by decide +kernel)⟩
theorem lw_p63 : lw_okq (⟨"FuseMinutesModel", "clause", "()I"⟩, 37) := ⟨⟨by decide +kernel, by decide +kernel⟩, List.mem_of_getElem? (i := 1169) (by decide +kernel), List.mem_of_getElem? (i := 1366) (by decide +kernel), List.mem_of_getElem? (i := 1367) (by decide +kernel)⟩
def lw_privs_4 : List (MethodName × Nat) := [(⟨"FuseMinutes", "setsGiving", "(I)I"⟩, 7), (⟨"FuseMinutes$Bundles", "shareOut", "(I)V"⟩, 4), (⟨"FuseMinutes$Bundles", "givesAll", "()Z"⟩, 4), (⟨"FuseMinutes$Bundles", "rank", "(LFuseMinutes$Store;)J"⟩, 4), (⟨"FuseMinutes", "suspectSets", "()I"⟩, 7), (⟨"FuseMinutes", "agreesWithAllSaid", "(I)Z"⟩, 7), (⟨"FuseMinutesModel", "forget", "()V"⟩, 37), (⟨"FuseMinutesModel", "begin", "(I)V"⟩, 37), (⟨"FuseMinutesModel", "full", "(I)I"⟩, 37), (⟨"FuseMinutesModel", "put", "(III)V"⟩, 37), (⟨"FuseMinutesModel", "isCord", "(I)Z"⟩, 37), (⟨"FuseMinutesModel", "four", "(I)V"⟩, 37), (⟨"FuseMinutesModel", "readText", "()I"⟩, 37), (⟨"FuseMinutesModel", "nextToken", "()V"⟩, 37), (⟨"FuseMinutesModel", "byteAt", "(I)I"⟩, 37), (⟨"FuseMinutesModel", "clause", "()I"⟩, 37)]
theorem lw_r4 : ∀ q ∈ lw_privs_4, lw_okq q := List.forall_mem_cons.mpr ⟨lw_p48, List.forall_mem_cons.mpr ⟨lw_p49, List.forall_mem_cons.mpr ⟨lw_p50, List.forall_mem_cons.mpr ⟨lw_p51, List.forall_mem_cons.mpr ⟨lw_p52, List.forall_mem_cons.mpr ⟨lw_p53, List.forall_mem_cons.mpr ⟨lw_p54, List.forall_mem_cons.mpr ⟨lw_p55, List.forall_mem_cons.mpr ⟨lw_p56, List.forall_mem_cons.mpr ⟨lw_p57, List.forall_mem_cons.mpr ⟨lw_p58, List.forall_mem_cons.mpr ⟨lw_p59, List.forall_mem_cons.mpr ⟨lw_p60, List.forall_mem_cons.mpr ⟨lw_p61, List.forall_mem_cons.mpr ⟨lw_p62, List.forall_mem_cons.mpr ⟨lw_p63, fun _ h => absurd h List.not_mem_nil⟩⟩⟩⟩⟩⟩⟩⟩⟩⟩⟩⟩⟩⟩⟩⟩
theorem lw_p64 : lw_okq (⟨"FuseMinutesModel", "sortOf", "()I"⟩, 37) := ⟨⟨by decide +kernel, by decide +kernel⟩, List.mem_of_getElem? (i := 1169) (by decide +kernel), List.mem_of_getElem? (i := 1370) (by decide +kernel), List.mem_of_getElem? (i := 1371) (by decide +kernel)⟩
theorem lw_p65 : lw_okq (⟨"FuseMinutesModel", "isWord", "(J)Z"⟩, 37) := ⟨⟨by decide +kernel, by decide +kernel⟩, List.mem_of_getElem? (i := 1169) (by decide +kernel), List.mem_of_getElem? (i := 1389) (by decide +kernel), List.mem_of_getElem? (i := 1390) (by decide +kernel)⟩
theorem lw_p66 : lw_okq (⟨"FuseMinutesModel", "body", "(II)I"⟩, 37) := ⟨⟨by decide +kernel, by decide +kernel⟩, List.mem_of_getElem? (i := 1169) (by decide +kernel), List.mem_of_getElem? (i := 1396) (by decide +kernel), List.mem_of_getElem? (i := 1397) (by decide +kernel)⟩
theorem lw_p67 : lw_okq (⟨"FuseMinutesModel", "cordClause", "(I)I"⟩, 37) := ⟨⟨by decide +kernel, by decide +kernel⟩, List.mem_of_getElem? (i := 1169) (by decide +kernel), List.mem_of_getElem? (i := 1400) (by decide +kernel), List.mem_of_getElem? (i := 1401) (by decide +kernel)⟩
theorem lw_p68 : lw_okq (⟨"FuseMinutesModel", "figure", "(III)I"⟩, 37) := ⟨⟨by decide +kernel, by decide +kernel⟩, List.mem_of_getElem? (i := 1169) (by decide +kernel), List.mem_of_getElem? (i := 1404) (by decide +kernel), List.mem_of_getElem? (i := 1405) (by decide +kernel)⟩
theorem lw_p69 : lw_okq (⟨"FuseMinutesModel", "lawClause", "(I)I"⟩, 37) := ⟨⟨by decide +kernel, by decide +kernel⟩, List.mem_of_getElem? (i := 1169) (by decide +kernel), List.mem_of_getElem? (i := 1408) (by decide +kernel), List.mem_of_getElem? (i := 1409) (by decide +kernel)⟩
theorem lw_p70 : lw_okq (⟨"FuseMinutesModel", "summed", "()I"⟩, 37) := ⟨⟨by decide +kernel, by decide +kernel⟩, List.mem_of_getElem? (i := 1169) (by decide +kernel), List.mem_of_getElem? (i := 1412) (by decide +kernel), List.mem_of_getElem? (i := 1413) (by decide +kernel)⟩
theorem lw_p71 : lw_okq (⟨"FuseMinutesModel", "behindOne", "()Z"⟩, 37) := ⟨⟨by decide +kernel, by decide +kernel⟩, List.mem_of_getElem? (i := 1169) (by decide +kernel), List.mem_of_getElem? (i := 1416) (by decide +kernel), List.mem_of_getElem? (i := 1417) (by decide +kernel)⟩
theorem lw_p72 : lw_okq (⟨"FuseMinutesModel", "betweenOf", "()I"⟩, 37) := ⟨⟨by decide +kernel, by decide +kernel⟩, List.mem_of_getElem? (i := 1169) (by decide +kernel), List.mem_of_getElem? (i := 1420) (by decide +kernel), List.mem_of_getElem? (i := 1421) (by decide +kernel)⟩
theorem lw_p73 : lw_okq (⟨"FuseMinutesModel", "openNow", "()I"⟩, 37) := ⟨⟨by decide +kernel, by decide +kernel⟩, List.mem_of_getElem? (i := 1169) (by decide +kernel), List.mem_of_getElem? (i := 1424) (by decide +kernel), List.mem_of_getElem? (i := 1425) (by decide +kernel)⟩
theorem lw_p74 : lw_okq (⟨"FuseMinutesModel", "openAt", "()I"⟩, 37) := ⟨⟨by decide +kernel, by decide +kernel⟩, List.mem_of_getElem? (i := 1169) (by decide +kernel), List.mem_of_getElem? (i := 1428) (by decide +kernel), List.mem_of_getElem? (i := 1429) (by decide +kernel)⟩
theorem lw_p75 : lw_okq (⟨"FuseMinutesModel", "isCompared", "()Z"⟩, 37) := ⟨⟨by decide +kernel, by decide +kernel⟩, List.mem_of_getElem? (i := 1169) (by decide +kernel), List.mem_of_getElem? (i := 1432) (by decide +kernel), List.mem_of_getElem? (i := 1433) (by decide +kernel)⟩
theorem lw_p76 : lw_okq (⟨"FuseMinutesModel", "compareOf", "()I"⟩, 37) := ⟨⟨by decide +kernel, by decide +kernel⟩, List.mem_of_getElem? (i := 1169) (by decide +kernel), List.mem_of_getElem? (i := 1439) (by decide +kernel), List.mem_of_getElem? (i := 1440) (by decide +kernel)⟩
theorem lw_p77 : lw_okq (⟨"FuseMinutesModel", "settle", "(I)V"⟩, 37) := ⟨⟨by decide +kernel, by decide +kernel⟩, List.mem_of_getElem? (i := 1169) (by decide +kernel), List.mem_of_getElem? (i := 1443) (by decide +kernel), List.mem_of_getElem? (i := 1444) (by decide +kernel)⟩
theorem lw_p78 : lw_okq (⟨"FuseMinutesModel", "emit", "(II)V"⟩, 37) := ⟨⟨by decide +kernel, by decide +kernel⟩, List.mem_of_getElem? (i := 1169) (by decide +kernel), List.mem_of_getElem? (i := 1447) (by decide +kernel), List.mem_of_getElem? (i := 1448) (by decide +kernel)⟩
theorem lw_p79 : lw_okq (⟨"FuseMinutesModel", "partOf", "(I)I"⟩, 37) := ⟨⟨by decide +kernel, by decide +kernel⟩, List.mem_of_getElem? (i := 1169) (by decide +kernel), List.mem_of_getElem? (i := 1451) (by decide +kernel), List.mem_of_getElem? (i := 1452) (by decide +kernel)⟩
def lw_privs_5 : List (MethodName × Nat) := [(⟨"FuseMinutesModel", "sortOf", "()I"⟩, 37), (⟨"FuseMinutesModel", "isWord", "(J)Z"⟩, 37), (⟨"FuseMinutesModel", "body", "(II)I"⟩, 37), (⟨"FuseMinutesModel", "cordClause", "(I)I"⟩, 37), (⟨"FuseMinutesModel", "figure", "(III)I"⟩, 37), (⟨"FuseMinutesModel", "lawClause", "(I)I"⟩, 37), (⟨"FuseMinutesModel", "summed", "()I"⟩, 37), (⟨"FuseMinutesModel", "behindOne", "()Z"⟩, 37), (⟨"FuseMinutesModel", "betweenOf", "()I"⟩, 37), (⟨"FuseMinutesModel", "openNow", "()I"⟩, 37), (⟨"FuseMinutesModel", "openAt", "()I"⟩, 37), (⟨"FuseMinutesModel", "isCompared", "()Z"⟩, 37), (⟨"FuseMinutesModel", "compareOf", "()I"⟩, 37), (⟨"FuseMinutesModel", "settle", "(I)V"⟩, 37), (⟨"FuseMinutesModel", "emit", "(II)V"⟩, 37), (⟨"FuseMinutesModel", "partOf", "(I)I"⟩, 37)]
theorem lw_r5 : ∀ q ∈ lw_privs_5, lw_okq q := List.forall_mem_cons.mpr ⟨lw_p64, List.forall_mem_cons.mpr ⟨lw_p65, List.forall_mem_cons.mpr ⟨lw_p66, List.forall_mem_cons.mpr ⟨lw_p67, List.forall_mem_cons.mpr ⟨lw_p68, List.forall_mem_cons.mpr ⟨lw_p69, List.forall_mem_cons.mpr ⟨lw_p70, List.forall_mem_cons.mpr ⟨lw_p71, List.forall_mem_cons.mpr ⟨lw_p72, List.forall_mem_cons.mpr ⟨lw_p73, List.forall_mem_cons.mpr ⟨lw_p74, List.forall_mem_cons.mpr ⟨lw_p75, List.forall_mem_cons.mpr ⟨lw_p76, List.forall_mem_cons.mpr ⟨lw_p77, List.forall_mem_cons.mpr ⟨lw_p78, List.forall_mem_cons.mpr ⟨lw_p79, fun _ h => absurd h List.not_mem_nil⟩⟩⟩⟩⟩⟩⟩⟩⟩⟩⟩⟩⟩⟩⟩⟩
theorem lw_p80 : lw_okq (⟨"FuseMinutesModel", "beginOne", "()I"⟩, 37) := ⟨⟨by decide +kernel, by decide +kernel⟩, List.mem_of_getElem? (i := 1169) (by decide +kernel), List.mem_of_getElem? (i := 1455) (by decide +kernel), List.mem_of_getElem? (i := 1456) (by decide +kernel)⟩
theorem lw_p81 : lw_okq (⟨"FuseMinutesModel", "nameOf", "()I"⟩, 37) := ⟨⟨by decide +kernel, by decide +kernel⟩, List.mem_of_getElem? (i := 1169) (by decide +kernel), List.mem_of_getElem? (i := 1459) (by decide +kernel), List.mem_of_getElem? (i := 1460) (by decide +kernel)⟩
theorem lw_p82 : lw_okq (⟨"FuseMinutesModel", "opened", "(I)I"⟩, 37) := ⟨⟨by decide +kernel, by decide +kernel⟩, List.mem_of_getElem? (i := 1169) (by decide +kernel), List.mem_of_getElem? (i := 1463) (by decide +kernel), List.mem_of_getElem? (i := 1464) (by decide +kernel)⟩
theorem lw_p83 : lw_okq (⟨"FuseMinutesModel", "isAskAhead", "()Z"⟩, 37) := ⟨⟨by decide +kernel, by decide +kernel⟩, List.mem_of_getElem? (i := 1169) (by decide +kernel), List.mem_of_getElem? (i := 1467) (by decide +kernel), List.mem_of_getElem? (i := 1468) (by decide +kernel)⟩
theorem lw_p84 : lw_okq (⟨"FuseMinutesModel", "canLight", "(IZ)Z"⟩, 37) := ⟨⟨by decide +kernel, by decide +kernel⟩, List.mem_of_getElem? (i := 1169) (by decide +kernel), List.mem_of_getElem? (i := 1487) (by decide +kernel), List.mem_of_getElem? (i := 1488) (by decide +kernel)⟩
theorem lw_p85 : lw_okq (⟨"FuseMinutesModel", "get", "(II)I"⟩, 37) := ⟨⟨by decide +kernel, by decide +kernel⟩, List.mem_of_getElem? (i := 1169) (by decide +kernel), List.mem_of_getElem? (i := 1491) (by decide +kernel), List.mem_of_getElem? (i := 1492) (by decide +kernel)⟩
theorem lw_p86 : lw_okq (⟨"FuseMinutesModel", "isOut", "(I)Z"⟩, 37) := ⟨⟨by decide +kernel, by decide +kernel⟩, List.mem_of_getElem? (i := 1169) (by decide +kernel), List.mem_of_getElem? (i := 1498) (by decide +kernel), List.mem_of_getElem? (i := 1499) (by decide +kernel)⟩
theorem lw_p87 : lw_okq (⟨"FuseMinutesModel", "lightsOf", "(IZ)I"⟩, 37) := ⟨⟨by decide +kernel, by decide +kernel⟩, List.mem_of_getElem? (i := 1169) (by decide +kernel), List.mem_of_getElem? (i := 1502) (by decide +kernel), List.mem_of_getElem? (i := 1503) (by decide +kernel)⟩
theorem lw_p88 : lw_okq (⟨"FuseMinutesModel", "name", "(I)V"⟩, 37) := ⟨⟨by decide +kernel, by decide +kernel⟩, List.mem_of_getElem? (i := 1169) (by decide +kernel), List.mem_of_getElem? (i := 1506) (by decide +kernel), List.mem_of_getElem? (i := 1507) (by decide +kernel)⟩
theorem lw_p89 : lw_okq (⟨"FuseMinutesModel", "endsNow", "()I"⟩, 37) := ⟨⟨by decide +kernel, by decide +kernel⟩, List.mem_of_getElem? (i := 1169) (by decide +kernel), List.mem_of_getElem? (i := 1510) (by decide +kernel), List.mem_of_getElem? (i := 1511) (by decide +kernel)⟩
theorem lw_p90 : lw_okq (⟨"FuseMinutesModel", "says", "(IIIII)I"⟩, 37) := ⟨⟨by decide +kernel, by decide +kernel⟩, List.mem_of_getElem? (i := 1169) (by decide +kernel), List.mem_of_getElem? (i := 1517) (by decide +kernel), List.mem_of_getElem? (i := 1518) (by decide +kernel)⟩
theorem lw_p91 : lw_okq (⟨"FuseMinutesModel", "summedUp", "(II)J"⟩, 37) := ⟨⟨by decide +kernel, by decide +kernel⟩, List.mem_of_getElem? (i := 1169) (by decide +kernel), List.mem_of_getElem? (i := 1521) (by decide +kernel), List.mem_of_getElem? (i := 1522) (by decide +kernel)⟩
theorem lw_p92 : lw_okq (⟨"FuseMinutesModel", "ofOne", "(IJ)J"⟩, 37) := ⟨⟨by decide +kernel, by decide +kernel⟩, List.mem_of_getElem? (i := 1169) (by decide +kernel), List.mem_of_getElem? (i := 1525) (by decide +kernel), List.mem_of_getElem? (i := 1526) (by decide +kernel)⟩
theorem lw_p93 : lw_okq (⟨"FuseMinutesModel", "outOf", "(J)J"⟩, 37) := ⟨⟨by decide +kernel, by decide +kernel⟩, List.mem_of_getElem? (i := 1169) (by decide +kernel), List.mem_of_getElem? (i := 1533) (by decide +kernel), List.mem_of_getElem? (i := 1534) (by decide +kernel)⟩
theorem lw_p94 : lw_okq (⟨"FuseMinutesModel", "keep", "()V"⟩, 37) := ⟨⟨by decide +kernel, by decide +kernel⟩, List.mem_of_getElem? (i := 1169) (by decide +kernel), List.mem_of_getElem? (i := 1554) (by decide +kernel), List.mem_of_getElem? (i := 1555) (by decide +kernel)⟩
theorem lw_p95 : lw_okq (⟨"FuseMinutesModel", "lightNow", "(IZ)I"⟩, 37) := ⟨⟨by decide +kernel, by decide +kernel⟩, List.mem_of_getElem? (i := 1169) (by decide +kernel), List.mem_of_getElem? (i := 1558) (by decide +kernel), List.mem_of_getElem? (i := 1559) (by decide +kernel)⟩
def lw_privs_6 : List (MethodName × Nat) := [(⟨"FuseMinutesModel", "beginOne", "()I"⟩, 37), (⟨"FuseMinutesModel", "nameOf", "()I"⟩, 37), (⟨"FuseMinutesModel", "opened", "(I)I"⟩, 37), (⟨"FuseMinutesModel", "isAskAhead", "()Z"⟩, 37), (⟨"FuseMinutesModel", "canLight", "(IZ)Z"⟩, 37), (⟨"FuseMinutesModel", "get", "(II)I"⟩, 37), (⟨"FuseMinutesModel", "isOut", "(I)Z"⟩, 37), (⟨"FuseMinutesModel", "lightsOf", "(IZ)I"⟩, 37), (⟨"FuseMinutesModel", "name", "(I)V"⟩, 37), (⟨"FuseMinutesModel", "endsNow", "()I"⟩, 37), (⟨"FuseMinutesModel", "says", "(IIIII)I"⟩, 37), (⟨"FuseMinutesModel", "summedUp", "(II)J"⟩, 37), (⟨"FuseMinutesModel", "ofOne", "(IJ)J"⟩, 37), (⟨"FuseMinutesModel", "outOf", "(J)J"⟩, 37), (⟨"FuseMinutesModel", "keep", "()V"⟩, 37), (⟨"FuseMinutesModel", "lightNow", "(IZ)I"⟩, 37)]
theorem lw_r6 : ∀ q ∈ lw_privs_6, lw_okq q := List.forall_mem_cons.mpr ⟨lw_p80, List.forall_mem_cons.mpr ⟨lw_p81, List.forall_mem_cons.mpr ⟨lw_p82, List.forall_mem_cons.mpr ⟨lw_p83, List.forall_mem_cons.mpr ⟨lw_p84, List.forall_mem_cons.mpr ⟨lw_p85, List.forall_mem_cons.mpr ⟨lw_p86, List.forall_mem_cons.mpr ⟨lw_p87, List.forall_mem_cons.mpr ⟨lw_p88, List.forall_mem_cons.mpr ⟨lw_p89, List.forall_mem_cons.mpr ⟨lw_p90, List.forall_mem_cons.mpr ⟨lw_p91, List.forall_mem_cons.mpr ⟨lw_p92, List.forall_mem_cons.mpr ⟨lw_p93, List.forall_mem_cons.mpr ⟨lw_p94, List.forall_mem_cons.mpr ⟨lw_p95, fun _ h => absurd h List.not_mem_nil⟩⟩⟩⟩⟩⟩⟩⟩⟩⟩⟩⟩⟩⟩⟩⟩
theorem lw_p96 : lw_okq (⟨"FuseMinutesModel", "failsOf", "(II)I"⟩, 37) := ⟨⟨by decide +kernel, by decide +kernel⟩, List.mem_of_getElem? (i := 1169) (by decide +kernel), List.mem_of_getElem? (i := 1562) (by decide +kernel), List.mem_of_getElem? (i := 1563) (by decide +kernel)⟩
theorem lw_p97 : lw_okq (⟨"FuseMinutesModel", "anew", "()V"⟩, 37) := ⟨⟨by decide +kernel, by decide +kernel⟩, List.mem_of_getElem? (i := 1169) (by decide +kernel), List.mem_of_getElem? (i := 1566) (by decide +kernel), List.mem_of_getElem? (i := 1567) (by decide +kernel)⟩
theorem lw_p98 : lw_okq (⟨"FuseMinutesModel", "write", "(III)V"⟩, 37) := ⟨⟨by decide +kernel, by decide +kernel⟩, List.mem_of_getElem? (i := 1169) (by decide +kernel), List.mem_of_getElem? (i := 1573) (by decide +kernel), List.mem_of_getElem? (i := 1574) (by decide +kernel)⟩
theorem lw_p99 : lw_okq (⟨"FuseMinutesModel", "canSnuff", "(IZ)Z"⟩, 37) := ⟨⟨by decide +kernel, by decide +kernel⟩, List.mem_of_getElem? (i := 1169) (by decide +kernel), List.mem_of_getElem? (i := 1581) (by decide +kernel), List.mem_of_getElem? (i := 1582) (by decide +kernel)⟩
theorem lw_p100 : lw_okq (⟨"FuseMinutesModel", "snuffNow", "(IZ)V"⟩, 37) := ⟨⟨by decide +kernel, by decide +kernel⟩, List.mem_of_getElem? (i := 1169) (by decide +kernel), List.mem_of_getElem? (i := 1585) (by decide +kernel), List.mem_of_getElem? (i := 1586) (by decide +kernel)⟩
theorem lw_p101 : lw_okq (⟨"FuseMinutesModel", "canRenew", "(I)Z"⟩, 37) := ⟨⟨by decide +kernel, by decide +kernel⟩, List.mem_of_getElem? (i := 1169) (by decide +kernel), List.mem_of_getElem? (i := 1593) (by decide +kernel), List.mem_of_getElem? (i := 1594) (by decide +kernel)⟩
theorem lw_p102 : lw_okq (⟨"FuseMinutesModel", "canBurn", "()Z"⟩, 37) := ⟨⟨by decide +kernel, by decide +kernel⟩, List.mem_of_getElem? (i := 1169) (by decide +kernel), List.mem_of_getElem? (i := 1601) (by decide +kernel), List.mem_of_getElem? (i := 1602) (by decide +kernel)⟩
theorem lw_p103 : lw_okq (⟨"FuseMinutesModel", "nextOut", "()I"⟩, 37) := ⟨⟨by decide +kernel, by decide +kernel⟩, List.mem_of_getElem? (i := 1169) (by decide +kernel), List.mem_of_getElem? (i := 1605) (by decide +kernel), List.mem_of_getElem? (i := 1606) (by decide +kernel)⟩
theorem lw_p104 : lw_okq (⟨"FuseMinutesModel", "outIn", "(I)I"⟩, 37) := ⟨⟨by decide +kernel, by decide +kernel⟩, List.mem_of_getElem? (i := 1169) (by decide +kernel), List.mem_of_getElem? (i := 1610) (by decide +kernel), List.mem_of_getElem? (i := 1611) (by decide +kernel)⟩
theorem lw_p105 : lw_okq (⟨"FuseMinutesModel", "pass", "(I)V"⟩, 37) := ⟨⟨by decide +kernel, by decide +kernel⟩, List.mem_of_getElem? (i := 1169) (by decide +kernel), List.mem_of_getElem? (i := 1615) (by decide +kernel), List.mem_of_getElem? (i := 1616) (by decide +kernel)⟩
theorem lw_p106 : lw_okq (⟨"FuseMinutesModel", "passOne", "(I)V"⟩, 37) := ⟨⟨by decide +kernel, by decide +kernel⟩, List.mem_of_getElem? (i := 1169) (by decide +kernel), List.mem_of_getElem? (i := 1619) (by decide +kernel), List.mem_of_getElem? (i := 1620) (by decide +kernel)⟩
theorem lw_p107 : lw_okq (⟨"FuseMinutesModel", "arePassed", "(I)Z"⟩, 37) := ⟨⟨by decide +kernel, by decide +kernel⟩, List.mem_of_getElem? (i := 1169) (by decide +kernel), List.mem_of_getElem? (i := 1627) (by decide +kernel), List.mem_of_getElem? (i := 1628) (by decide +kernel)⟩
theorem lw_p108 : lw_okq (⟨"FuseMinutesModel", "canPass", "()Z"⟩, 37) := ⟨⟨by decide +kernel, by decide +kernel⟩, List.mem_of_getElem? (i := 1169) (by decide +kernel), List.mem_of_getElem? (i := 1631) (by decide +kernel), List.mem_of_getElem? (i := 1632) (by decide +kernel)⟩
theorem lw_p109 : lw_okq (⟨"FuseMinutesModel", "isPlayed", "(I)Z"⟩, 37) := ⟨⟨by decide +kernel, by decide +kernel⟩, List.mem_of_getElem? (i := 1169) (by decide +kernel), List.mem_of_getElem? (i := 1639) (by decide +kernel), List.mem_of_getElem? (i := 1640) (by decide +kernel)⟩
theorem lw_p110 : lw_okq (⟨"FuseMinutesModel", "happens", "(I)V"⟩, 37) := ⟨⟨by decide +kernel, by decide +kernel⟩, List.mem_of_getElem? (i := 1169) (by decide +kernel), List.mem_of_getElem? (i := 1653) (by decide +kernel), List.mem_of_getElem? (i := 1654) (by decide +kernel)⟩
theorem lw_p111 : lw_okq (⟨"FuseMinutesModel", "entry", "(II)I"⟩, 37) := ⟨⟨by decide +kernel, by decide +kernel⟩, List.mem_of_getElem? (i := 1169) (by decide +kernel), List.mem_of_getElem? (i := 1673) (by decide +kernel), List.mem_of_getElem? (i := 1674) (by decide +kernel)⟩
def lw_privs_7 : List (MethodName × Nat) := [(⟨"FuseMinutesModel", "failsOf", "(II)I"⟩, 37), (⟨"FuseMinutesModel", "anew", "()V"⟩, 37), (⟨"FuseMinutesModel", "write", "(III)V"⟩, 37), (⟨"FuseMinutesModel", "canSnuff", "(IZ)Z"⟩, 37), (⟨"FuseMinutesModel", "snuffNow", "(IZ)V"⟩, 37), (⟨"FuseMinutesModel", "canRenew", "(I)Z"⟩, 37), (⟨"FuseMinutesModel", "canBurn", "()Z"⟩, 37), (⟨"FuseMinutesModel", "nextOut", "()I"⟩, 37), (⟨"FuseMinutesModel", "outIn", "(I)I"⟩, 37), (⟨"FuseMinutesModel", "pass", "(I)V"⟩, 37), (⟨"FuseMinutesModel", "passOne", "(I)V"⟩, 37), (⟨"FuseMinutesModel", "arePassed", "(I)Z"⟩, 37), (⟨"FuseMinutesModel", "canPass", "()Z"⟩, 37), (⟨"FuseMinutesModel", "isPlayed", "(I)Z"⟩, 37), (⟨"FuseMinutesModel", "happens", "(I)V"⟩, 37), (⟨"FuseMinutesModel", "entry", "(II)I"⟩, 37)]
theorem lw_r7 : ∀ q ∈ lw_privs_7, lw_okq q := List.forall_mem_cons.mpr ⟨lw_p96, List.forall_mem_cons.mpr ⟨lw_p97, List.forall_mem_cons.mpr ⟨lw_p98, List.forall_mem_cons.mpr ⟨lw_p99, List.forall_mem_cons.mpr ⟨lw_p100, List.forall_mem_cons.mpr ⟨lw_p101, List.forall_mem_cons.mpr ⟨lw_p102, List.forall_mem_cons.mpr ⟨lw_p103, List.forall_mem_cons.mpr ⟨lw_p104, List.forall_mem_cons.mpr ⟨lw_p105, List.forall_mem_cons.mpr ⟨lw_p106, List.forall_mem_cons.mpr ⟨lw_p107, List.forall_mem_cons.mpr ⟨lw_p108, List.forall_mem_cons.mpr ⟨lw_p109, List.forall_mem_cons.mpr ⟨lw_p110, List.forall_mem_cons.mpr ⟨lw_p111, fun _ h => absurd h List.not_mem_nil⟩⟩⟩⟩⟩⟩⟩⟩⟩⟩⟩⟩⟩⟩⟩⟩
theorem lw_p112 : lw_okq (⟨"FuseMinutesModel", "areCords", "(I)Z"⟩, 37) := ⟨⟨by decide +kernel, by decide +kernel⟩, List.mem_of_getElem? (i := 1169) (by decide +kernel), List.mem_of_getElem? (i := 1705) (by decide +kernel), List.mem_of_getElem? (i := 1706) (by decide +kernel)⟩
theorem lw_p113 : lw_okq (⟨"FuseMinutesModel", "layGives", "(I)V"⟩, 37) := ⟨⟨by decide +kernel, by decide +kernel⟩, List.mem_of_getElem? (i := 1169) (by decide +kernel), List.mem_of_getElem? (i := 1709) (by decide +kernel), List.mem_of_getElem? (i := 1710) (by decide +kernel)⟩
theorem lw_p114 : lw_okq (⟨"FuseMinutesModel", "layFirst", "(I)V"⟩, 37) := ⟨⟨by decide +kernel, by decide +kernel⟩, List.mem_of_getElem? (i := 1169) (by decide +kernel), List.mem_of_getElem? (i := 1713) (by decide +kernel), List.mem_of_getElem? (i := 1714) (by decide +kernel)⟩
theorem lw_p115 : lw_okq (⟨"FuseMinutesModel", "isLighting", "(II)Z"⟩, 37) := ⟨⟨by decide +kernel, by decide +kernel⟩, List.mem_of_getElem? (i := 1169) (by decide +kernel), List.mem_of_getElem? (i := 1717) (by decide +kernel), List.mem_of_getElem? (i := 1718) (by decide +kernel)⟩
theorem lw_p116 : lw_okq (⟨"FuseMinutesModel", "isNext", "(I)Z"⟩, 37) := ⟨⟨by decide +kernel, by decide +kernel⟩, List.mem_of_getElem? (i := 1169) (by decide +kernel), List.mem_of_getElem? (i := 1724) (by decide +kernel), List.mem_of_getElem? (i := 1725) (by decide +kernel)⟩
theorem lw_p117 : lw_okq (⟨"FuseMinutesModel", "mark", "(II)V"⟩, 37) := ⟨⟨by decide +kernel, by decide +kernel⟩, List.mem_of_getElem? (i := 1169) (by decide +kernel), List.mem_of_getElem? (i := 1728) (by decide +kernel), List.mem_of_getElem? (i := 1729) (by decide +kernel)⟩
theorem lw_p118 : lw_okq (⟨"FuseMinutesModel", "isGiven", "(II)Z"⟩, 37) := ⟨⟨by decide +kernel, by decide +kernel⟩, List.mem_of_getElem? (i := 1169) (by decide +kernel), List.mem_of_getElem? (i := 1732) (by decide +kernel), List.mem_of_getElem? (i := 1733) (by decide +kernel)⟩
theorem lw_p119 : lw_okq (⟨"FuseMinutesModel", "layRow", "(II)I"⟩, 37) := ⟨⟨by decide +kernel, by decide +kernel⟩, List.mem_of_getElem? (i := 1169) (by decide +kernel), List.mem_of_getElem? (i := 1751) (by decide +kernel), List.mem_of_getElem? (i := 1752) (by decide +kernel)⟩
theorem lw_p120 : lw_okq (⟨"FuseMinutesModel", "isRow", "(III)Z"⟩, 37) := ⟨⟨by decide +kernel, by decide +kernel⟩, List.mem_of_getElem? (i := 1169) (by decide +kernel), List.mem_of_getElem? (i := 1756) (by decide +kernel), List.mem_of_getElem? (i := 1757) (by decide +kernel)⟩
theorem lw_p121 : lw_okq (⟨"FuseMinutesModel", "isSpanAt", "(II)Z"⟩, 37) := ⟨⟨by decide +kernel, by decide +kernel⟩, List.mem_of_getElem? (i := 1169) (by decide +kernel), List.mem_of_getElem? (i := 1760) (by decide +kernel), List.mem_of_getElem? (i := 1761) (by decide +kernel)⟩
theorem lw_p122 : lw_okq (⟨"FuseMinutesModel", "isCheaper", "(II)Z"⟩, 37) := ⟨⟨by decide +kernel, by decide +kernel⟩, List.mem_of_getElem? (i := 1169) (by decide +kernel), List.mem_of_getElem? (i := 1776) (by decide +kernel), List.mem_of_getElem? (i := 1777) (by decide +kernel)⟩
theorem lw_p123 : lw_okq (⟨"FuseMinutesModel", "priceOf", "(I)I"⟩, 37) := ⟨⟨by decide +kernel, by decide +kernel⟩, List.mem_of_getElem? (i := 1169) (by decide +kernel), List.mem_of_getElem? (i := 1780) (by decide +kernel), List.mem_of_getElem? (i := 1781) (by decide +kernel)⟩
theorem lw_p124 : lw_okq (⟨"FuseMinutesModel", "layBundle", "()I"⟩, 37) := ⟨⟨by decide +kernel, by decide +kernel⟩, List.mem_of_getElem? (i := 1169) (by decide +kernel), List.mem_of_getElem? (i := 1792) (by decide +kernel), List.mem_of_getElem? (i := 1793) (by decide +kernel)⟩
theorem lw_p125 : lw_okq (⟨"FuseMinutesModel", "areParts", "(I)Z"⟩, 37) := ⟨⟨by decide +kernel, by decide +kernel⟩, List.mem_of_getElem? (i := 1169) (by decide +kernel), List.mem_of_getElem? (i := 1796) (by decide +kernel), List.mem_of_getElem? (i := 1797) (by decide +kernel)⟩
theorem lw_p126 : lw_okq (⟨"FuseMinutesModel", "isLower", "()Z"⟩, 37) := ⟨⟨by decide +kernel, by decide +kernel⟩, List.mem_of_getElem? (i := 1169) (by decide +kernel), List.mem_of_getElem? (i := 1800) (by decide +kernel), List.mem_of_getElem? (i := 1801) (by decide +kernel)⟩
theorem lw_p127 : lw_okq (⟨"FuseMinutesModel", "layGames", "(II)V"⟩, 37) := ⟨⟨by decide +kernel, by decide +kernel⟩, List.mem_of_getElem? (i := 1169) (by decide +kernel), List.mem_of_getElem? (i := 1812) (by decide +kernel), List.mem_of_getElem? (i := 1813) (by decide +kernel)⟩
def lw_privs_8 : List (MethodName × Nat) := [(⟨"FuseMinutesModel", "areCords", "(I)Z"⟩, 37), (⟨"FuseMinutesModel", "layGives", "(I)V"⟩, 37), (⟨"FuseMinutesModel", "layFirst", "(I)V"⟩, 37), (⟨"FuseMinutesModel", "isLighting", "(II)Z"⟩, 37), (⟨"FuseMinutesModel", "isNext", "(I)Z"⟩, 37), (⟨"FuseMinutesModel", "mark", "(II)V"⟩, 37), (⟨"FuseMinutesModel", "isGiven", "(II)Z"⟩, 37), (⟨"FuseMinutesModel", "layRow", "(II)I"⟩, 37), (⟨"FuseMinutesModel", "isRow", "(III)Z"⟩, 37), (⟨"FuseMinutesModel", "isSpanAt", "(II)Z"⟩, 37), (⟨"FuseMinutesModel", "isCheaper", "(II)Z"⟩, 37), (⟨"FuseMinutesModel", "priceOf", "(I)I"⟩, 37), (⟨"FuseMinutesModel", "layBundle", "()I"⟩, 37), (⟨"FuseMinutesModel", "areParts", "(I)Z"⟩, 37), (⟨"FuseMinutesModel", "isLower", "()Z"⟩, 37), (⟨"FuseMinutesModel", "layGames", "(II)V"⟩, 37)]
theorem lw_r8 : ∀ q ∈ lw_privs_8, lw_okq q := List.forall_mem_cons.mpr ⟨lw_p112, List.forall_mem_cons.mpr ⟨lw_p113, List.forall_mem_cons.mpr ⟨lw_p114, List.forall_mem_cons.mpr ⟨lw_p115, List.forall_mem_cons.mpr ⟨lw_p116, List.forall_mem_cons.mpr ⟨lw_p117, List.forall_mem_cons.mpr ⟨lw_p118, List.forall_mem_cons.mpr ⟨lw_p119, List.forall_mem_cons.mpr ⟨lw_p120, List.forall_mem_cons.mpr ⟨lw_p121, List.forall_mem_cons.mpr ⟨lw_p122, List.forall_mem_cons.mpr ⟨lw_p123, List.forall_mem_cons.mpr ⟨lw_p124, List.forall_mem_cons.mpr ⟨lw_p125, List.forall_mem_cons.mpr ⟨lw_p126, List.forall_mem_cons.mpr ⟨lw_p127, fun _ h => absurd h List.not_mem_nil⟩⟩⟩⟩⟩⟩⟩⟩⟩⟩⟩⟩⟩⟩⟩⟩
theorem lw_p128 : lw_okq (⟨"FuseMinutesModel", "bestOf", "(II[I)I"⟩, 37) := ⟨⟨by decide +kernel, by decide +kernel⟩, List.mem_of_getElem? (i := 1169) (by decide +kernel), List.mem_of_getElem? (i := 1822) (by decide +kernel), List.mem_of_getElem? (i := 1823) (by decide +kernel)⟩
theorem lw_p129 : lw_okq (⟨"FuseMinutesModel", "takenBy", "(III[I)I"⟩, 37) := ⟨⟨by decide +kernel, by decide +kernel⟩, List.mem_of_getElem? (i := 1169) (by decide +kernel), List.mem_of_getElem? (i := 1826) (by decide +kernel), List.mem_of_getElem? (i := 1827) (by decide +kernel)⟩
theorem lw_p130 : lw_okq (⟨"FuseMinutesModel", "isSuspect", "(I)Z"⟩, 37) := ⟨⟨by decide +kernel, by decide +kernel⟩, List.mem_of_getElem? (i := 1169) (by decide +kernel), List.mem_of_getElem? (i := 1845) (by decide +kernel), List.mem_of_getElem? (i := 1846) (by decide +kernel)⟩
def lw_privs_9 : List (MethodName × Nat) := [(⟨"FuseMinutesModel", "bestOf", "(II[I)I"⟩, 37), (⟨"FuseMinutesModel", "takenBy", "(III[I)I"⟩, 37), (⟨"FuseMinutesModel", "isSuspect", "(I)Z"⟩, 37)]
theorem lw_r9 : ∀ q ∈ lw_privs_9, lw_okq q := List.forall_mem_cons.mpr ⟨lw_p128, List.forall_mem_cons.mpr ⟨lw_p129, List.forall_mem_cons.mpr ⟨lw_p130, fun _ h => absurd h List.not_mem_nil⟩⟩⟩
def lw_privs : List (MethodName × Nat) := lw_privs_1 ++ (lw_privs_2 ++ (lw_privs_3 ++ (lw_privs_4 ++ (lw_privs_5 ++ (lw_privs_6 ++ (lw_privs_7 ++ (lw_privs_8 ++ (lw_privs_9))))))))
def lw_tbl : List Cond := k2_sels lw_privs ++ tables_1
theorem lw_privs_ok : ∀ q ∈ lw_privs, lw_okq q := by
  show ∀ q ∈ lw_privs_1 ++ (lw_privs_2 ++ (lw_privs_3 ++ (lw_privs_4 ++ (lw_privs_5 ++ (lw_privs_6 ++ (lw_privs_7 ++ (lw_privs_8 ++ (lw_privs_9)))))))), lw_okq q
  exact List.forall_mem_append.mpr ⟨lw_r1, List.forall_mem_append.mpr ⟨lw_r2, List.forall_mem_append.mpr ⟨lw_r3, List.forall_mem_append.mpr ⟨lw_r4, List.forall_mem_append.mpr ⟨lw_r5, List.forall_mem_append.mpr ⟨lw_r6, List.forall_mem_append.mpr ⟨lw_r7, List.forall_mem_append.mpr ⟨lw_r8, lw_r9⟩⟩⟩⟩⟩⟩⟩⟩
-- ===== end of PART A; then your names; then what follows =====
end
section
def RX0 : String := "FuseMinutes$Bundles"
def TX0 : u_T := fun k => match k with
  | 0 => ("FuseMinutes$Bundles", "giving", "[I", true)
  | 1 => ("FuseMinutes$Bundles", "shares", "[I", true)
  | 2 => ("FuseMinutes$Bundles", "wanted", "I", false)
  | _ => ("FuseMinutes$Bundles", "best", "J", false)
def tyX0 : Nat → FieldType := fun k => match k with
  | 0 => .array .int
  | 1 => .array .int
  | 2 => .int
  | _ => .long
abbrev wsX00 : List Cond := u_ws RX0 TX0 4
theorem nmX0 : ∀ a, a < 4 → ∀ b, b < 4 → a ≠ b → (TX0 a).2.1 ≠ (TX0 b).2.1 := by decide +kernel
theorem tyX0_ok : ∀ k, k < 4 → parseFieldDescriptor (TX0 k).2.2.1 = some (tyX0 k) := by decide +kernel
abbrev cX0_init : ByteArray := prog_2_method_1_code
def yX0_init : MethodName := ⟨RX0, "<init>", "()V"⟩
abbrev cX0_begin : ByteArray := prog_2_method_2_code
def yX0_begin : MethodName := ⟨RX0, "begin", "(I)V"⟩
abbrev cX0_find : ByteArray := prog_2_method_3_code
def yX0_find : MethodName := ⟨RX0, "find", "(LFuseMinutes$Store;I)Z"⟩
abbrev cX0_shareOut : ByteArray := prog_2_method_4_code
def yX0_shareOut : MethodName := ⟨RX0, "shareOut", "(I)V"⟩
abbrev cX0_givesAll : ByteArray := prog_2_method_5_code
def yX0_givesAll : MethodName := ⟨RX0, "givesAll", "()Z"⟩
abbrev cX0_rank : ByteArray := prog_2_method_6_code
def yX0_rank : MethodName := ⟨RX0, "rank", "(LFuseMinutes$Store;)J"⟩
abbrev cX0_cords : ByteArray := prog_2_method_7_code
def yX0_cords : MethodName := ⟨RX0, "cords", "()I"⟩
abbrev cX0_share : ByteArray := prog_2_method_8_code
def yX0_share : MethodName := ⟨RX0, "share", "(I)I"⟩
def RX1 : String := "FuseMinutes$Crews"
def TX1 : u_T := fun k => match k with
  | _ => ("", "", "", false)
def tyX1 : Nat → FieldType := fun k => match k with
  | _ => .int
abbrev wsX10 : List Cond := u_ws RX1 TX1 0
theorem nmX1 : ∀ a, a < 0 → ∀ b, b < 0 → a ≠ b → (TX1 a).2.1 ≠ (TX1 b).2.1 := by decide +kernel
theorem tyX1_ok : ∀ k, k < 0 → parseFieldDescriptor (TX1 k).2.2.1 = some (tyX1 k) := by decide +kernel
abbrev cX1_outcome : ByteArray := prog_3_method_2_code
def yX1_outcome : MethodName := ⟨RX1, "outcome", "(IIIII)I"⟩
abbrev cX1_behindTaking : ByteArray := prog_3_method_3_code
def yX1_behindTaking : MethodName := ⟨RX1, "behindTaking", "(IIIII)I"⟩
abbrev cX1_bestFirst : ByteArray := prog_3_method_4_code
def yX1_bestFirst : MethodName := ⟨RX1, "bestFirst", "(III)I"⟩
def RX2 : String := "FuseMinutes$Pit"
def TX2 : u_T := fun k => match k with
  | 0 => ("FuseMinutes$Pit", "cords", "I", false)
  | 1 => ("FuseMinutes$Pit", "sparks", "I", false)
  | 2 => ("FuseMinutes$Pit", "x", "I", false)
  | 3 => ("FuseMinutes$Pit", "lit", "I", false)
  | 4 => ("FuseMinutes$Pit", "rest", "[I", true)
  | 5 => ("FuseMinutes$Pit", "ends", "[I", true)
  | 6 => ("FuseMinutes$Pit", "book", "[I", true)
  | _ => ("FuseMinutes$Pit", "lines", "I", false)
def tyX2 : Nat → FieldType := fun k => match k with
  | 0 => .int
  | 1 => .int
  | 2 => .int
  | 3 => .int
  | 4 => .array .int
  | 5 => .array .int
  | 6 => .array .int
  | _ => .int
abbrev wsX20 : List Cond := u_ws RX2 TX2 8
theorem nmX2 : ∀ a, a < 8 → ∀ b, b < 8 → a ≠ b → (TX2 a).2.1 ≠ (TX2 b).2.1 := by decide +kernel
theorem tyX2_ok : ∀ k, k < 8 → parseFieldDescriptor (TX2 k).2.2.1 = some (tyX2 k) := by decide +kernel
abbrev cX2_init : ByteArray := prog_4_method_1_code
def yX2_init : MethodName := ⟨RX2, "<init>", "()V"⟩
abbrev cX2_copy : ByteArray := prog_4_method_2_code
def yX2_copy : MethodName := ⟨RX2, "copy", "(LFuseMinutes$Pit;)V"⟩
abbrev cX2_has : ByteArray := prog_4_method_3_code
def yX2_has : MethodName := ⟨RX2, "has", "(I)Z"⟩
abbrev cX2_lay : ByteArray := prog_4_method_4_code
def yX2_lay : MethodName := ⟨RX2, "lay", "(I)V"⟩
abbrev cX2_makeNew : ByteArray := prog_4_method_5_code
def yX2_makeNew : MethodName := ⟨RX2, "makeNew", "(II)V"⟩
abbrev cX2_burns : ByteArray := prog_4_method_6_code
def yX2_burns : MethodName := ⟨RX2, "burns", "(II)Z"⟩
abbrev cX2_putOut : ByteArray := prog_4_method_7_code
def yX2_putOut : MethodName := ⟨RX2, "putOut", "(II)V"⟩
abbrev cX2_touch : ByteArray := prog_4_method_8_code
def yX2_touch : MethodName := ⟨RX2, "touch", "(IIZ)V"⟩
abbrev cX2_draw : ByteArray := prog_4_method_9_code
def yX2_draw : MethodName := ⟨RX2, "draw", "()I"⟩
abbrev cX2_endsBurning : ByteArray := prog_4_method_10_code
def yX2_endsBurning : MethodName := ⟨RX2, "endsBurning", "()I"⟩
abbrev cX2_sparksToOut : ByteArray := prog_4_method_11_code
def yX2_sparksToOut : MethodName := ⟨RX2, "sparksToOut", "(I)I"⟩
abbrev cX2_sparksToNextOut : ByteArray := prog_4_method_12_code
def yX2_sparksToNextOut : MethodName := ⟨RX2, "sparksToNextOut", "()I"⟩
abbrev cX2_sparksToBurn : ByteArray := prog_4_method_13_code
def yX2_sparksToBurn : MethodName := ⟨RX2, "sparksToBurn", "()I"⟩
abbrev cX2_hasTimeFor : ByteArray := prog_4_method_14_code
def yX2_hasTimeFor : MethodName := ⟨RX2, "hasTimeFor", "(I)Z"⟩
abbrev cX2_pass : ByteArray := prog_4_method_15_code
def yX2_pass : MethodName := ⟨RX2, "pass", "(I)I"⟩
abbrev cX2_passWithin : ByteArray := prog_4_method_16_code
def yX2_passWithin : MethodName := ⟨RX2, "passWithin", "(I)I"⟩
abbrev cX2_writeDown : ByteArray := prog_4_method_17_code
def yX2_writeDown : MethodName := ⟨RX2, "writeDown", "(III)V"⟩
def RX3 : String := "FuseMinutes$Reader"
def TX3 : u_T := fun k => match k with
  | 0 => ("FuseMinutes$Reader", "bytes", "[I", true)
  | 1 => ("FuseMinutes$Reader", "length", "I", false)
  | 2 => ("FuseMinutes$Reader", "fault", "I", false)
  | 3 => ("FuseMinutes$Reader", "faultPlace", "I", false)
  | 4 => ("FuseMinutes$Reader", "at", "I", false)
  | 5 => ("FuseMinutes$Reader", "token", "I", false)
  | 6 => ("FuseMinutes$Reader", "place", "I", false)
  | 7 => ("FuseMinutes$Reader", "number", "I", false)
  | 8 => ("FuseMinutes$Reader", "open", "I", false)
  | 9 => ("FuseMinutes$Reader", "law", "I", false)
  | _ => ("FuseMinutes$Reader", "text", "LFuseMinutes$Text;", false)
def tyX3 : Nat → FieldType := fun k => match k with
  | 0 => .array .int
  | 1 => .int
  | 2 => .int
  | 3 => .int
  | 4 => .int
  | 5 => .int
  | 6 => .int
  | 7 => .int
  | 8 => .int
  | 9 => .int
  | _ => .object "FuseMinutes$Text"
abbrev wsX30 : List Cond := u_ws RX3 TX3 11
theorem nmX3 : ∀ a, a < 11 → ∀ b, b < 11 → a ≠ b → (TX3 a).2.1 ≠ (TX3 b).2.1 := by decide +kernel
theorem tyX3_ok : ∀ k, k < 11 → parseFieldDescriptor (TX3 k).2.2.1 = some (tyX3 k) := by decide +kernel
abbrev cX3_init : ByteArray := prog_5_method_1_code
def yX3_init : MethodName := ⟨RX3, "<init>", "()V"⟩
abbrev cX3_append : ByteArray := prog_5_method_2_code
def yX3_append : MethodName := ⟨RX3, "append", "(I)V"⟩
abbrev cX3_readInto : ByteArray := prog_5_method_3_code
def yX3_readInto : MethodName := ⟨RX3, "readInto", "(LFuseMinutes$Text;)V"⟩
abbrev cX3_readClause : ByteArray := prog_5_method_4_code
def yX3_readClause : MethodName := ⟨RX3, "readClause", "(I)V"⟩
abbrev cX3_readLaw : ByteArray := prog_5_method_5_code
def yX3_readLaw : MethodName := ⟨RX3, "readLaw", "(I)V"⟩
abbrev cX3_readAct : ByteArray := prog_5_method_6_code
def yX3_readAct : MethodName := ⟨RX3, "readAct", "(I)V"⟩
abbrev cX3_readNumber : ByteArray := prog_5_method_7_code
def yX3_readNumber : MethodName := ⟨RX3, "readNumber", "(II)I"⟩
abbrev cX3_readSum : ByteArray := prog_5_method_8_code
def yX3_readSum : MethodName := ⟨RX3, "readSum", "()V"⟩
abbrev cX3_readProduct : ByteArray := prog_5_method_9_code
def yX3_readProduct : MethodName := ⟨RX3, "readProduct", "()V"⟩
abbrev cX3_readOne : ByteArray := prog_5_method_10_code
def yX3_readOne : MethodName := ⟨RX3, "readOne", "()V"⟩
abbrev cX3_readOpening : ByteArray := prog_5_method_11_code
def yX3_readOpening : MethodName := ⟨RX3, "readOpening", "(I)V"⟩
abbrev cX3_readIf : ByteArray := prog_5_method_12_code
def yX3_readIf : MethodName := ⟨RX3, "readIf", "()V"⟩
abbrev cX3_readEither : ByteArray := prog_5_method_13_code
def yX3_readEither : MethodName := ⟨RX3, "readEither", "()V"⟩
abbrev cX3_readBoth : ByteArray := prog_5_method_14_code
def yX3_readBoth : MethodName := ⟨RX3, "readBoth", "()V"⟩
abbrev cX3_readAsk : ByteArray := prog_5_method_15_code
def yX3_readAsk : MethodName := ⟨RX3, "readAsk", "()V"⟩
abbrev cX3_opens : ByteArray := prog_5_method_16_code
def yX3_opens : MethodName := ⟨RX3, "opens", "()Z"⟩
abbrev cX3_isName : ByteArray := prog_5_method_17_code
def yX3_isName : MethodName := ⟨RX3, "isName", "(I)Z"⟩
abbrev cX3_compares : ByteArray := prog_5_method_18_code
def yX3_compares : MethodName := ⟨RX3, "compares", "(I)Z"⟩
abbrev cX3_expect : ByteArray := prog_5_method_19_code
def yX3_expect : MethodName := ⟨RX3, "expect", "(I)V"⟩
abbrev cX3_fail : ByteArray := prog_5_method_20_code
def yX3_fail : MethodName := ⟨RX3, "fail", "(I)V"⟩
abbrev cX3_next : ByteArray := prog_5_method_21_code
def yX3_next : MethodName := ⟨RX3, "next", "()V"⟩
abbrev cX3_byteAt : ByteArray := prog_5_method_22_code
def yX3_byteAt : MethodName := ⟨RX3, "byteAt", "(I)I"⟩
abbrev cX3_isLetter : ByteArray := prog_5_method_23_code
def yX3_isLetter : MethodName := ⟨RX3, "isLetter", "(I)Z"⟩
abbrev cX3_isDigit : ByteArray := prog_5_method_24_code
def yX3_isDigit : MethodName := ⟨RX3, "isDigit", "(I)Z"⟩
abbrev cX3_nextWord : ByteArray := prog_5_method_25_code
def yX3_nextWord : MethodName := ⟨RX3, "nextWord", "()I"⟩
abbrev cX3_spells : ByteArray := prog_5_method_26_code
def yX3_spells : MethodName := ⟨RX3, "spells", "(I)Z"⟩
abbrev cX3_nextNumber : ByteArray := prog_5_method_27_code
def yX3_nextNumber : MethodName := ⟨RX3, "nextNumber", "()I"⟩
abbrev cX3_nextSign : ByteArray := prog_5_method_28_code
def yX3_nextSign : MethodName := ⟨RX3, "nextSign", "(I)I"⟩
def RX4 : String := "FuseMinutes$Rows"
def TX4 : u_T := fun k => match k with
  | 0 => ("FuseMinutes$Rows", "minutes", "[I", true)
  | 1 => ("FuseMinutes$Rows", "rowBegins", "I", false)
  | 2 => ("FuseMinutes$Rows", "rowEnds", "I", false)
  | 3 => ("FuseMinutes$Rows", "spans", "[J", true)
  | 4 => ("FuseMinutes$Rows", "knownSets", "I", false)
  | 5 => ("FuseMinutes$Rows", "rowSet", "I", false)
  | 6 => ("FuseMinutes$Rows", "rowSpan", "I", false)
  | 7 => ("FuseMinutes$Rows", "rest", "[I", true)
  | 8 => ("FuseMinutes$Rows", "ends", "[I", true)
  | 9 => ("FuseMinutes$Rows", "chosen", "[I", true)
  | 10 => ("FuseMinutes$Rows", "times", "[I", true)
  | 11 => ("FuseMinutes$Rows", "walkedSet", "I", false)
  | 12 => ("FuseMinutes$Rows", "soughtSpan", "I", false)
  | _ => ("FuseMinutes$Rows", "lastMoment", "I", false)
def tyX4 : Nat → FieldType := fun k => match k with
  | 0 => .array .int
  | 1 => .int
  | 2 => .int
  | 3 => .array .long
  | 4 => .int
  | 5 => .int
  | 6 => .int
  | 7 => .array .int
  | 8 => .array .int
  | 9 => .array .int
  | 10 => .array .int
  | 11 => .int
  | 12 => .int
  | _ => .int
abbrev wsX40 : List Cond := u_ws RX4 TX4 14
theorem nmX4 : ∀ a, a < 14 → ∀ b, b < 14 → a ≠ b → (TX4 a).2.1 ≠ (TX4 b).2.1 := by decide +kernel
theorem tyX4_ok : ∀ k, k < 14 → parseFieldDescriptor (TX4 k).2.2.1 = some (tyX4 k) := by decide +kernel
abbrev cX4_init : ByteArray := prog_6_method_1_code
def yX4_init : MethodName := ⟨RX4, "<init>", "([I)V"⟩
abbrev cX4_forget : ByteArray := prog_6_method_2_code
def yX4_forget : MethodName := ⟨RX4, "forget", "(I)V"⟩
abbrev cX4_gives : ByteArray := prog_6_method_3_code
def yX4_gives : MethodName := ⟨RX4, "gives", "(II)Z"⟩
abbrev cX4_countSpans : ByteArray := prog_6_method_4_code
def yX4_countSpans : MethodName := ⟨RX4, "countSpans", "(I)I"⟩
abbrev cX4_spanNumber : ByteArray := prog_6_method_5_code
def yX4_spanNumber : MethodName := ⟨RX4, "spanNumber", "(II)I"⟩
abbrev cX4_spanInWord : ByteArray := prog_6_method_6_code
def yX4_spanInWord : MethodName := ⟨RX4, "spanInWord", "(III)I"⟩
abbrev cX4_nearestTo : ByteArray := prog_6_method_7_code
def yX4_nearestTo : MethodName := ⟨RX4, "nearestTo", "(II)I"⟩
abbrev cX4_nextMarked : ByteArray := prog_6_method_8_code
def yX4_nextMarked : MethodName := ⟨RX4, "nextMarked", "(III)I"⟩
abbrev cX4_marked : ByteArray := prog_6_method_9_code
def yX4_marked : MethodName := ⟨RX4, "marked", "(II)Z"⟩
abbrev cX4_learn : ByteArray := prog_6_method_10_code
def yX4_learn : MethodName := ⟨RX4, "learn", "(I)V"⟩
abbrev cX4_findRow : ByteArray := prog_6_method_11_code
def yX4_findRow : MethodName := ⟨RX4, "findRow", "(II)Z"⟩
abbrev cX4_litAt : ByteArray := prog_6_method_12_code
def yX4_litAt : MethodName := ⟨RX4, "litAt", "(I)I"⟩
abbrev cX4_begin : ByteArray := prog_6_method_13_code
def yX4_begin : MethodName := ⟨RX4, "begin", "(III)V"⟩
abbrev cX4_walk : ByteArray := prog_6_method_14_code
def yX4_walk : MethodName := ⟨RX4, "walk", "(I)Z"⟩
abbrev cX4_chooseNext : ByteArray := prog_6_method_15_code
def yX4_chooseNext : MethodName := ⟨RX4, "chooseNext", "(I)Z"⟩
abbrev cX4_burnOn : ByteArray := prog_6_method_16_code
def yX4_burnOn : MethodName := ⟨RX4, "burnOn", "(I)Z"⟩
abbrev cX4_arrive : ByteArray := prog_6_method_17_code
def yX4_arrive : MethodName := ⟨RX4, "arrive", "(I)Z"⟩
def RX5 : String := "FuseMinutes$Steps"
def TX5 : u_T := fun k => match k with
  | 0 => ("FuseMinutes$Steps", "pits", "[LFuseMinutes$Pit;", true)
  | 1 => ("FuseMinutes$Steps", "first", "I", false)
  | _ => ("FuseMinutes$Steps", "count", "I", false)
def tyX5 : Nat → FieldType := fun k => match k with
  | 0 => .array (.object "FuseMinutes$Pit")
  | 1 => .int
  | _ => .int
abbrev wsX50 : List Cond := u_ws RX5 TX5 3
theorem nmX5 : ∀ a, a < 3 → ∀ b, b < 3 → a ≠ b → (TX5 a).2.1 ≠ (TX5 b).2.1 := by decide +kernel
theorem tyX5_ok : ∀ k, k < 3 → parseFieldDescriptor (TX5 k).2.2.1 = some (tyX5 k) := by decide +kernel
abbrev cX5_init : ByteArray := prog_7_method_1_code
def yX5_init : MethodName := ⟨RX5, "<init>", "()V"⟩
abbrev cX5_push : ByteArray := prog_7_method_2_code
def yX5_push : MethodName := ⟨RX5, "push", "(LFuseMinutes$Pit;)V"⟩
abbrev cX5_pop : ByteArray := prog_7_method_3_code
def yX5_pop : MethodName := ⟨RX5, "pop", "(LFuseMinutes$Pit;)Z"⟩
abbrev cX5_copy : ByteArray := prog_7_method_4_code
def yX5_copy : MethodName := ⟨RX5, "copy", "(LFuseMinutes$Steps;)V"⟩
def RX6 : String := "FuseMinutes$Store"
def TX6 : u_T := fun k => match k with
  | 0 => ("FuseMinutes$Store", "pit", "LFuseMinutes$Pit;", true)
  | 1 => ("FuseMinutes$Store", "steps", "LFuseMinutes$Steps;", true)
  | 2 => ("FuseMinutes$Store", "minutes", "[I", true)
  | 3 => ("FuseMinutes$Store", "price", "[I", true)
  | 4 => ("FuseMinutes$Store", "wet", "I", false)
  | 5 => ("FuseMinutes$Store", "hands", "I", false)
  | 6 => ("FuseMinutes$Store", "texts", "I", false)
  | 7 => ("FuseMinutes$Store", "ruling", "I", false)
  | 8 => ("FuseMinutes$Store", "wanted", "LFuseMinutes$Told;", true)
  | 9 => ("FuseMinutes$Store", "tried", "LFuseMinutes$Told;", true)
  | _ => ("FuseMinutes$Store", "said", "LFuseMinutes$Told;", true)
def tyX6 : Nat → FieldType := fun k => match k with
  | 0 => .object "FuseMinutes$Pit"
  | 1 => .object "FuseMinutes$Steps"
  | 2 => .array .int
  | 3 => .array .int
  | 4 => .int
  | 5 => .int
  | 6 => .int
  | 7 => .int
  | 8 => .object "FuseMinutes$Told"
  | 9 => .object "FuseMinutes$Told"
  | _ => .object "FuseMinutes$Told"
abbrev wsX60 : List Cond := u_ws RX6 TX6 11
theorem nmX6 : ∀ a, a < 11 → ∀ b, b < 11 → a ≠ b → (TX6 a).2.1 ≠ (TX6 b).2.1 := by decide +kernel
theorem tyX6_ok : ∀ k, k < 11 → parseFieldDescriptor (TX6 k).2.2.1 = some (tyX6 k) := by decide +kernel
abbrev cX6_init : ByteArray := prog_8_method_1_code
def yX6_init : MethodName := ⟨RX6, "<init>", "()V"⟩
abbrev cX6_copy : ByteArray := prog_8_method_2_code
def yX6_copy : MethodName := ⟨RX6, "copy", "(LFuseMinutes$Store;)V"⟩
abbrev cX6_priceOf : ByteArray := prog_8_method_3_code
def yX6_priceOf : MethodName := ⟨RX6, "priceOf", "(I)I"⟩
def RX7 : String := "FuseMinutes$Sums"
def TX7 : u_T := fun k => match k with
  | 0 => ("FuseMinutes$Sums", "store", "LFuseMinutes$Store;", true)
  | 1 => ("FuseMinutes$Sums", "stack", "[I", true)
  | 2 => ("FuseMinutes$Sums", "cord", "I", false)
  | _ => ("FuseMinutes$Sums", "side", "I", false)
def tyX7 : Nat → FieldType := fun k => match k with
  | 0 => .object "FuseMinutes$Store"
  | 1 => .array .int
  | 2 => .int
  | _ => .int
abbrev wsX70 : List Cond := u_ws RX7 TX7 4
theorem nmX7 : ∀ a, a < 4 → ∀ b, b < 4 → a ≠ b → (TX7 a).2.1 ≠ (TX7 b).2.1 := by decide +kernel
theorem tyX7_ok : ∀ k, k < 4 → parseFieldDescriptor (TX7 k).2.2.1 = some (tyX7 k) := by decide +kernel
abbrev cX7_init : ByteArray := prog_9_method_1_code
def yX7_init : MethodName := ⟨RX7, "<init>", "(LFuseMinutes$Store;)V"⟩
abbrev cX7_valueOf : ByteArray := prog_9_method_2_code
def yX7_valueOf : MethodName := ⟨RX7, "valueOf", "(LFuseMinutes$Text;III)I"⟩
abbrev cX7_takes : ByteArray := prog_9_method_3_code
def yX7_takes : MethodName := ⟨RX7, "takes", "(I)I"⟩
abbrev cX7_limited : ByteArray := prog_9_method_4_code
def yX7_limited : MethodName := ⟨RX7, "limited", "(J)I"⟩
abbrev cX7_leaf : ByteArray := prog_9_method_5_code
def yX7_leaf : MethodName := ⟨RX7, "leaf", "(I)J"⟩
abbrev cX7_result : ByteArray := prog_9_method_6_code
def yX7_result : MethodName := ⟨RX7, "result", "(IJJJ)J"⟩
abbrev cX7_isOut : ByteArray := prog_9_method_7_code
def yX7_isOut : MethodName := ⟨RX7, "isOut", "(J)Z"⟩
abbrev cX7_holds : ByteArray := prog_9_method_8_code
def yX7_holds : MethodName := ⟨RX7, "holds", "(IJJ)Z"⟩
def RX8 : String := "FuseMinutes$Suspects"
def TX8 : u_T := fun k => match k with
  | _ => ("", "", "", false)
def tyX8 : Nat → FieldType := fun k => match k with
  | _ => .int
abbrev wsX80 : List Cond := u_ws RX8 TX8 0
theorem nmX8 : ∀ a, a < 0 → ∀ b, b < 0 → a ≠ b → (TX8 a).2.1 ≠ (TX8 b).2.1 := by decide +kernel
theorem tyX8_ok : ∀ k, k < 0 → parseFieldDescriptor (TX8 k).2.2.1 = some (tyX8 k) := by decide +kernel
abbrev cX8_fits : ByteArray := prog_10_method_2_code
def yX8_fits : MethodName := ⟨RX8, "fits", "(ILFuseMinutes$Told;)Z"⟩
abbrev cX8_inAll : ByteArray := prog_10_method_3_code
def yX8_inAll : MethodName := ⟨RX8, "inAll", "(II)I"⟩
abbrev cX8_inNone : ByteArray := prog_10_method_4_code
def yX8_inNone : MethodName := ⟨RX8, "inNone", "(II)I"⟩
abbrev cX8_lowest : ByteArray := prog_10_method_5_code
def yX8_lowest : MethodName := ⟨RX8, "lowest", "(I)I"⟩
abbrev cX8_bestTrial : ByteArray := prog_10_method_6_code
def yX8_bestTrial : MethodName := ⟨RX8, "bestTrial", "(II)I"⟩
abbrev cX8_countFailing : ByteArray := prog_10_method_7_code
def yX8_countFailing : MethodName := ⟨RX8, "countFailing", "(II)I"⟩
def RX9 : String := "FuseMinutes$Text"
def TX9 : u_T := fun k => match k with
  | 0 => ("FuseMinutes$Text", "kinds", "[I", true)
  | 1 => ("FuseMinutes$Text", "firsts", "[I", true)
  | 2 => ("FuseMinutes$Text", "seconds", "[I", true)
  | 3 => ("FuseMinutes$Text", "clauses", "I", false)
  | 4 => ("FuseMinutes$Text", "code", "[I", true)
  | 5 => ("FuseMinutes$Text", "length", "I", false)
  | 6 => ("FuseMinutes$Text", "lawBegins", "[I", true)
  | _ => ("FuseMinutes$Text", "lawEnds", "[I", true)
def tyX9 : Nat → FieldType := fun k => match k with
  | 0 => .array .int
  | 1 => .array .int
  | 2 => .array .int
  | 3 => .int
  | 4 => .array .int
  | 5 => .int
  | 6 => .array .int
  | _ => .array .int
abbrev wsX90 : List Cond := u_ws RX9 TX9 8
theorem nmX9 : ∀ a, a < 8 → ∀ b, b < 8 → a ≠ b → (TX9 a).2.1 ≠ (TX9 b).2.1 := by decide +kernel
theorem tyX9_ok : ∀ k, k < 8 → parseFieldDescriptor (TX9 k).2.2.1 = some (tyX9 k) := by decide +kernel
abbrev cX9_init : ByteArray := prog_11_method_1_code
def yX9_init : MethodName := ⟨RX9, "<init>", "()V"⟩
abbrev cX9_clear : ByteArray := prog_11_method_2_code
def yX9_clear : MethodName := ⟨RX9, "clear", "()V"⟩
abbrev cX9_rules : ByteArray := prog_11_method_3_code
def yX9_rules : MethodName := ⟨RX9, "rules", "(I)Z"⟩
abbrev cX9_addClause : ByteArray := prog_11_method_4_code
def yX9_addClause : MethodName := ⟨RX9, "addClause", "(III)V"⟩
abbrev cX9_addCode : ByteArray := prog_11_method_5_code
def yX9_addCode : MethodName := ⟨RX9, "addCode", "(I)V"⟩
def RX10 : String := "FuseMinutes$Told"
def TX10 : u_T := fun k => match k with
  | 0 => ("FuseMinutes$Told", "items", "[I", true)
  | _ => ("FuseMinutes$Told", "count", "I", false)
def tyX10 : Nat → FieldType := fun k => match k with
  | 0 => .array .int
  | _ => .int
abbrev wsX100 : List Cond := u_ws RX10 TX10 2
theorem nmX10 : ∀ a, a < 2 → ∀ b, b < 2 → a ≠ b → (TX10 a).2.1 ≠ (TX10 b).2.1 := by decide +kernel
theorem tyX10_ok : ∀ k, k < 2 → parseFieldDescriptor (TX10 k).2.2.1 = some (tyX10 k) := by decide +kernel
abbrev cX10_init : ByteArray := prog_12_method_1_code
def yX10_init : MethodName := ⟨RX10, "<init>", "(I)V"⟩
abbrev cX10_add : ByteArray := prog_12_method_2_code
def yX10_add : MethodName := ⟨RX10, "add", "(I)Z"⟩
abbrev cX10_copy : ByteArray := prog_12_method_3_code
def yX10_copy : MethodName := ⟨RX10, "copy", "(LFuseMinutes$Told;)V"⟩
def RX11 : String := "FuseMinutes"
def TX11 : u_T := fun k => match k with
  | 0 => ("FuseMinutes", "now", "LFuseMinutes$Store;", true)
  | 1 => ("FuseMinutes", "image", "LFuseMinutes$Store;", true)
  | 2 => ("FuseMinutes", "reader", "LFuseMinutes$Reader;", true)
  | 3 => ("FuseMinutes", "texts", "[LFuseMinutes$Text;", true)
  | 4 => ("FuseMinutes", "sums", "LFuseMinutes$Sums;", true)
  | 5 => ("FuseMinutes", "rows", "LFuseMinutes$Rows;", true)
  | _ => ("FuseMinutes", "bundles", "LFuseMinutes$Bundles;", true)
def tyX11 : Nat → FieldType := fun k => match k with
  | 0 => .object "FuseMinutes$Store"
  | 1 => .object "FuseMinutes$Store"
  | 2 => .object "FuseMinutes$Reader"
  | 3 => .array (.object "FuseMinutes$Text")
  | 4 => .object "FuseMinutes$Sums"
  | 5 => .object "FuseMinutes$Rows"
  | _ => .object "FuseMinutes$Bundles"
abbrev wsX110 : List Cond := u_ws RX11 TX11 7
theorem nmX11 : ∀ a, a < 7 → ∀ b, b < 7 → a ≠ b → (TX11 a).2.1 ≠ (TX11 b).2.1 := by decide +kernel
theorem tyX11_ok : ∀ k, k < 7 → parseFieldDescriptor (TX11 k).2.2.1 = some (tyX11 k) := by decide +kernel
abbrev cX11_init : ByteArray := prog_1_method_1_code
def yX11_init : MethodName := ⟨RX11, "<init>", "()V"⟩
abbrev cX11_cord : ByteArray := prog_1_method_2_code
def yX11_cord : MethodName := ⟨RX11, "cord", "(II)I"⟩
abbrev cX11_hands : ByteArray := prog_1_method_3_code
def yX11_hands : MethodName := ⟨RX11, "hands", "(I)Z"⟩
abbrev cX11_feed : ByteArray := prog_1_method_4_code
def yX11_feed : MethodName := ⟨RX11, "feed", "(IIIII)I"⟩
abbrev cX11_end : ByteArray := prog_1_method_5_code
def yX11_end : MethodName := ⟨RX11, "end", "(I)I"⟩
abbrev cX11_text : ByteArray := prog_1_method_6_code
def yX11_text : MethodName := ⟨RX11, "text", "()I"⟩
abbrev cX11_fault : ByteArray := prog_1_method_7_code
def yX11_fault : MethodName := ⟨RX11, "fault", "(I)I"⟩
abbrev cX11_by : ByteArray := prog_1_method_8_code
def yX11_by : MethodName := ⟨RX11, "by", "(I)Z"⟩
abbrev cX11_light : ByteArray := prog_1_method_9_code
def yX11_light : MethodName := ⟨RX11, "light", "(IZ)I"⟩
abbrev cX11_snuff : ByteArray := prog_1_method_10_code
def yX11_snuff : MethodName := ⟨RX11, "snuff", "(IZ)Z"⟩
abbrev cX11_renew : ByteArray := prog_1_method_11_code
def yX11_renew : MethodName := ⟨RX11, "renew", "(I)Z"⟩
abbrev cX11_burn : ByteArray := prog_1_method_12_code
def yX11_burn : MethodName := ⟨RX11, "burn", "()I"⟩
abbrev cX11_minute : ByteArray := prog_1_method_13_code
def yX11_minute : MethodName := ⟨RX11, "minute", "(I)I"⟩
abbrev cX11_played : ByteArray := prog_1_method_14_code
def yX11_played : MethodName := ⟨RX11, "played", "(I)I"⟩
abbrev cX11_shifts : ByteArray := prog_1_method_15_code
def yX11_shifts : MethodName := ⟨RX11, "shifts", "(II)I"⟩
abbrev cX11_undo : ByteArray := prog_1_method_16_code
def yX11_undo : MethodName := ⟨RX11, "undo", "()I"⟩
abbrev cX11_of : ByteArray := prog_1_method_17_code
def yX11_of : MethodName := ⟨RX11, "of", "(II)I"⟩
abbrev cX11_law : ByteArray := prog_1_method_18_code
def yX11_law : MethodName := ⟨RX11, "law", "(IZZ)I"⟩
abbrev cX11_is : ByteArray := prog_1_method_19_code
def yX11_is : MethodName := ⟨RX11, "is", "(I)I"⟩
abbrev cX11_book : ByteArray := prog_1_method_20_code
def yX11_book : MethodName := ⟨RX11, "book", "(II)I"⟩
abbrev cX11_foretold : ByteArray := prog_1_method_21_code
def yX11_foretold : MethodName := ⟨RX11, "foretold", "(II)I"⟩
abbrev cX11_out : ByteArray := prog_1_method_22_code
def yX11_out : MethodName := ⟨RX11, "out", "(I)I"⟩
abbrev cX11_spans : ByteArray := prog_1_method_23_code
def yX11_spans : MethodName := ⟨RX11, "spans", "(II)I"⟩
abbrev cX11_can : ByteArray := prog_1_method_24_code
def yX11_can : MethodName := ⟨RX11, "can", "(II)Z"⟩
abbrev cX11_fewest : ByteArray := prog_1_method_25_code
def yX11_fewest : MethodName := ⟨RX11, "fewest", "(I)I"⟩
abbrev cX11_cheapest : ByteArray := prog_1_method_26_code
def yX11_cheapest : MethodName := ⟨RX11, "cheapest", "(I)I"⟩
abbrev cX11_row : ByteArray := prog_1_method_27_code
def yX11_row : MethodName := ⟨RX11, "row", "(III)I"⟩
abbrev cX11_between : ByteArray := prog_1_method_28_code
def yX11_between : MethodName := ⟨RX11, "between", "(IIZ)I"⟩
abbrev cX11_nearest : ByteArray := prog_1_method_29_code
def yX11_nearest : MethodName := ⟨RX11, "nearest", "(II)I"⟩
abbrev cX11_want : ByteArray := prog_1_method_30_code
def yX11_want : MethodName := ⟨RX11, "want", "(I)I"⟩
abbrev cX11_bundle : ByteArray := prog_1_method_31_code
def yX11_bundle : MethodName := ⟨RX11, "bundle", "(Z)I"⟩
abbrev cX11_part : ByteArray := prog_1_method_32_code
def yX11_part : MethodName := ⟨RX11, "part", "(I)I"⟩
abbrev cX11_crews : ByteArray := prog_1_method_33_code
def yX11_crews : MethodName := ⟨RX11, "crews", "(II)I"⟩
abbrev cX11_take : ByteArray := prog_1_method_34_code
def yX11_take : MethodName := ⟨RX11, "take", "(II)I"⟩
abbrev cX11_wet : ByteArray := prog_1_method_35_code
def yX11_wet : MethodName := ⟨RX11, "wet", "(IZ)Z"⟩
abbrev cX11_tried : ByteArray := prog_1_method_36_code
def yX11_tried : MethodName := ⟨RX11, "tried", "(IZ)I"⟩
abbrev cX11_suspects : ByteArray := prog_1_method_37_code
def yX11_suspects : MethodName := ⟨RX11, "suspects", "(I)I"⟩
abbrev cX11_test : ByteArray := prog_1_method_38_code
def yX11_test : MethodName := ⟨RX11, "test", "()I"⟩
abbrev cX11_right : ByteArray := prog_1_method_39_code
def yX11_right : MethodName := ⟨RX11, "right", "(IIZ)J"⟩
abbrev cX11_tries : ByteArray := prog_1_method_40_code
def yX11_tries : MethodName := ⟨RX11, "tries", "(IIIZ)J"⟩
abbrev cX11_said : ByteArray := prog_1_method_41_code
def yX11_said : MethodName := ⟨RX11, "said", "(II)I"⟩
abbrev cX11_whose : ByteArray := prog_1_method_42_code
def yX11_whose : MethodName := ⟨RX11, "whose", "()I"⟩
abbrev cX11_longest : ByteArray := prog_1_method_43_code
def yX11_longest : MethodName := ⟨RX11, "longest", "()I"⟩
abbrev cX11_burning : ByteArray := prog_1_method_44_code
def yX11_burning : MethodName := ⟨RX11, "burning", "()I"⟩
abbrev cX11_dead : ByteArray := prog_1_method_45_code
def yX11_dead : MethodName := ⟨RX11, "dead", "()I"⟩
abbrev cX11_ledger : ByteArray := prog_1_method_46_code
def yX11_ledger : MethodName := ⟨RX11, "ledger", "(I)I"⟩
abbrev cX11_image : ByteArray := prog_1_method_47_code
def yX11_image : MethodName := ⟨RX11, "image", "()I"⟩
abbrev cX11_back : ByteArray := prog_1_method_48_code
def yX11_back : MethodName := ⟨RX11, "back", "()I"⟩
abbrev cX11_about : ByteArray := prog_1_method_49_code
def yX11_about : MethodName := ⟨RX11, "about", "(I)I"⟩
abbrev cX11_within : ByteArray := prog_1_method_50_code
def yX11_within : MethodName := ⟨RX11, "within", "(III)Z"⟩
abbrev cX11_isSpan : ByteArray := prog_1_method_51_code
def yX11_isSpan : MethodName := ⟨RX11, "isSpan", "(I)Z"⟩
abbrev cX11_allCords : ByteArray := prog_1_method_52_code
def yX11_allCords : MethodName := ⟨RX11, "allCords", "()I"⟩
abbrev cX11_isSet : ByteArray := prog_1_method_53_code
def yX11_isSet : MethodName := ⟨RX11, "isSet", "(I)Z"⟩
abbrev cX11_hasText : ByteArray := prog_1_method_54_code
def yX11_hasText : MethodName := ⟨RX11, "hasText", "(I)Z"⟩
abbrev cX11_canLight : ByteArray := prog_1_method_55_code
def yX11_canLight : MethodName := ⟨RX11, "canLight", "(II)Z"⟩
abbrev cX11_kindle : ByteArray := prog_1_method_56_code
def yX11_kindle : MethodName := ⟨RX11, "kindle", "(II)I"⟩
abbrev cX11_canRenew : ByteArray := prog_1_method_57_code
def yX11_canRenew : MethodName := ⟨RX11, "canRenew", "(I)Z"⟩
abbrev cX11_lightsSays : ByteArray := prog_1_method_58_code
def yX11_lightsSays : MethodName := ⟨RX11, "lightsSays", "(II)I"⟩
abbrev cX11_failsSays : ByteArray := prog_1_method_59_code
def yX11_failsSays : MethodName := ⟨RX11, "failsSays", "(II)I"⟩
abbrev cX11_carriedOut : ByteArray := prog_1_method_60_code
def yX11_carriedOut : MethodName := ⟨RX11, "carriedOut", "(III)Z"⟩
abbrev cX11_minutesPassed : ByteArray := prog_1_method_61_code
def yX11_minutesPassed : MethodName := ⟨RX11, "minutesPassed", "(I)Z"⟩
abbrev cX11_shiftBy : ByteArray := prog_1_method_62_code
def yX11_shiftBy : MethodName := ⟨RX11, "shiftBy", "(I)V"⟩
abbrev cX11_shiftCord : ByteArray := prog_1_method_63_code
def yX11_shiftCord : MethodName := ⟨RX11, "shiftCord", "(III)V"⟩
abbrev cX11_partOfLine : ByteArray := prog_1_method_64_code
def yX11_partOfLine : MethodName := ⟨RX11, "partOfLine", "(II)I"⟩
abbrev cX11_setsGiving : ByteArray := prog_1_method_65_code
def yX11_setsGiving : MethodName := ⟨RX11, "setsGiving", "(I)I"⟩
abbrev cX11_findBundle : ByteArray := prog_1_method_66_code
def yX11_findBundle : MethodName := ⟨RX11, "findBundle", "()Z"⟩
abbrev cX11_suspectSets : ByteArray := prog_1_method_67_code
def yX11_suspectSets : MethodName := ⟨RX11, "suspectSets", "()I"⟩
abbrev cX11_agreesWithAllSaid : ByteArray := prog_1_method_68_code
def yX11_agreesWithAllSaid : MethodName := ⟨RX11, "agreesWithAllSaid", "(I)Z"⟩
abbrev cX11_power : ByteArray := prog_1_method_69_code
def yX11_power : MethodName := ⟨RX11, "power", "(JI)J"⟩
abbrev cX11_inLowestTerms : ByteArray := prog_1_method_70_code
def yX11_inLowestTerms : MethodName := ⟨RX11, "inLowestTerms", "(JJZ)J"⟩
def RX12 : String := "FuseMinutesModel"
def TX12 : u_T := fun k => match k with
  | 0 => ("FuseMinutesModel", "a", "[I", true)
  | 1 => ("FuseMinutesModel", "image", "[I", true)
  | 2 => ("FuseMinutesModel", "texts", "[I", true)
  | 3 => ("FuseMinutesModel", "tape", "[I", true)
  | 4 => ("FuseMinutesModel", "taped", "I", false)
  | 5 => ("FuseMinutesModel", "fault", "I", false)
  | 6 => ("FuseMinutesModel", "faultPlace", "I", false)
  | 7 => ("FuseMinutesModel", "at", "I", false)
  | 8 => ("FuseMinutesModel", "place", "I", false)
  | 9 => ("FuseMinutesModel", "token", "I", false)
  | 10 => ("FuseMinutesModel", "number", "I", false)
  | 11 => ("FuseMinutesModel", "word", "J", false)
  | 12 => ("FuseMinutesModel", "text0", "I", false)
  | 13 => ("FuseMinutesModel", "written", "I", false)
  | 14 => ("FuseMinutesModel", "sort0", "I", false)
  | 15 => ("FuseMinutesModel", "pile", "[I", true)
  | 16 => ("FuseMinutesModel", "piled", "I", false)
  | 17 => ("FuseMinutesModel", "opens", "I", false)
  | 18 => ("FuseMinutesModel", "isWhole", "Z", false)
  | 19 => ("FuseMinutesModel", "once", "I", false)
  | 20 => ("FuseMinutesModel", "named", "[I", true)
  | 21 => ("FuseMinutesModel", "values", "[J", true)
  | 22 => ("FuseMinutesModel", "truth", "[Z", true)
  | 23 => ("FuseMinutesModel", "isWritten", "Z", false)
  | 24 => ("FuseMinutesModel", "wentOut", "I", false)
  | 25 => ("FuseMinutesModel", "aside", "[I", true)
  | 26 => ("FuseMinutesModel", "times", "[I", true)
  | 27 => ("FuseMinutesModel", "codes", "[I", true)
  | 28 => ("FuseMinutesModel", "rests", "[I", true)
  | 29 => ("FuseMinutesModel", "ends", "[I", true)
  | 30 => ("FuseMinutesModel", "gives", "[Z", true)
  | 31 => ("FuseMinutesModel", "given", "[I", true)
  | 32 => ("FuseMinutesModel", "begins", "I", false)
  | 33 => ("FuseMinutesModel", "parts", "[I", true)
  | 34 => ("FuseMinutesModel", "bestParts", "[I", true)
  | 35 => ("FuseMinutesModel", "games", "[I", true)
  | _ => ("FuseMinutesModel", "otherGames", "[I", true)
def tyX12 : Nat → FieldType := fun k => match k with
  | 0 => .array .int
  | 1 => .array .int
  | 2 => .array .int
  | 3 => .array .int
  | 4 => .int
  | 5 => .int
  | 6 => .int
  | 7 => .int
  | 8 => .int
  | 9 => .int
  | 10 => .int
  | 11 => .long
  | 12 => .int
  | 13 => .int
  | 14 => .int
  | 15 => .array .int
  | 16 => .int
  | 17 => .int
  | 18 => .boolean
  | 19 => .int
  | 20 => .array .int
  | 21 => .array .long
  | 22 => .array .boolean
  | 23 => .boolean
  | 24 => .int
  | 25 => .array .int
  | 26 => .array .int
  | 27 => .array .int
  | 28 => .array .int
  | 29 => .array .int
  | 30 => .array .boolean
  | 31 => .array .int
  | 32 => .int
  | 33 => .array .int
  | 34 => .array .int
  | 35 => .array .int
  | _ => .array .int
abbrev wsX120 : List Cond := u_ws RX12 TX12 37
theorem nmX12 : ∀ a, a < 37 → ∀ b, b < 37 → a ≠ b → (TX12 a).2.1 ≠ (TX12 b).2.1 := by decide +kernel
theorem tyX12_ok : ∀ k, k < 37 → parseFieldDescriptor (TX12 k).2.2.1 = some (tyX12 k) := by decide +kernel
abbrev cX12_init : ByteArray := prog_14_method_1_code
def yX12_init : MethodName := ⟨RX12, "<init>", "()V"⟩
abbrev cX12_copy : ByteArray := prog_14_method_2_code
def yX12_copy : MethodName := ⟨RX12, "copy", "([I[I)V"⟩
abbrev cX12_isIn : ByteArray := prog_14_method_3_code
def yX12_isIn : MethodName := ⟨RX12, "isIn", "(III)Z"⟩
abbrev cX12_cut : ByteArray := prog_14_method_4_code
def yX12_cut : MethodName := ⟨RX12, "cut", "(JII)I"⟩
abbrev cX12_has : ByteArray := prog_14_method_5_code
def yX12_has : MethodName := ⟨RX12, "has", "(II)Z"⟩
abbrev cX12_bits : ByteArray := prog_14_method_6_code
def yX12_bits : MethodName := ⟨RX12, "bits", "(I)I"⟩
abbrev cX12_isCord : ByteArray := prog_14_method_7_code
def yX12_isCord : MethodName := ⟨RX12, "isCord", "(I)Z"⟩
abbrev cX12_areCords : ByteArray := prog_14_method_8_code
def yX12_areCords : MethodName := ⟨RX12, "areCords", "(I)Z"⟩
abbrev cX12_isSpan : ByteArray := prog_14_method_9_code
def yX12_isSpan : MethodName := ⟨RX12, "isSpan", "(I)Z"⟩
abbrev cX12_get : ByteArray := prog_14_method_10_code
def yX12_get : MethodName := ⟨RX12, "get", "(II)I"⟩
abbrev cX12_put : ByteArray := prog_14_method_11_code
def yX12_put : MethodName := ⟨RX12, "put", "(III)V"⟩
abbrev cX12_full : ByteArray := prog_14_method_12_code
def yX12_full : MethodName := ⟨RX12, "full", "(I)I"⟩
abbrev cX12_priceOf : ByteArray := prog_14_method_13_code
def yX12_priceOf : MethodName := ⟨RX12, "priceOf", "(I)I"⟩
abbrev cX12_isOut : ByteArray := prog_14_method_14_code
def yX12_isOut : MethodName := ⟨RX12, "isOut", "(I)Z"⟩
abbrev cX12_endsNow : ByteArray := prog_14_method_15_code
def yX12_endsNow : MethodName := ⟨RX12, "endsNow", "()I"⟩
abbrev cX12_cord : ByteArray := prog_14_method_16_code
def yX12_cord : MethodName := ⟨RX12, "cord", "(II)I"⟩
abbrev cX12_begin : ByteArray := prog_14_method_17_code
def yX12_begin : MethodName := ⟨RX12, "begin", "(I)V"⟩
abbrev cX12_hands : ByteArray := prog_14_method_18_code
def yX12_hands : MethodName := ⟨RX12, "hands", "(I)Z"⟩
abbrev cX12_wet : ByteArray := prog_14_method_19_code
def yX12_wet : MethodName := ⟨RX12, "wet", "(IZ)Z"⟩
abbrev cX12_four : ByteArray := prog_14_method_20_code
def yX12_four : MethodName := ⟨RX12, "four", "(I)V"⟩
abbrev cX12_feed : ByteArray := prog_14_method_21_code
def yX12_feed : MethodName := ⟨RX12, "feed", "(IIIII)I"⟩
abbrev cX12_end : ByteArray := prog_14_method_22_code
def yX12_end : MethodName := ⟨RX12, "end", "(I)I"⟩
abbrev cX12_byteAt : ByteArray := prog_14_method_23_code
def yX12_byteAt : MethodName := ⟨RX12, "byteAt", "(I)I"⟩
abbrev cX12_isLetterByte : ByteArray := prog_14_method_24_code
def yX12_isLetterByte : MethodName := ⟨RX12, "isLetterByte", "(I)Z"⟩
abbrev cX12_isFigure : ByteArray := prog_14_method_25_code
def yX12_isFigure : MethodName := ⟨RX12, "isFigure", "(I)Z"⟩
abbrev cX12_isSign : ByteArray := prog_14_method_26_code
def yX12_isSign : MethodName := ⟨RX12, "isSign", "(I)Z"⟩
abbrev cX12_nextToken : ByteArray := prog_14_method_27_code
def yX12_nextToken : MethodName := ⟨RX12, "nextToken", "()V"⟩
abbrev cX12_w2 : ByteArray := prog_14_method_28_code
def yX12_w2 : MethodName := ⟨RX12, "w2", "(II)J"⟩
abbrev cX12_w3 : ByteArray := prog_14_method_29_code
def yX12_w3 : MethodName := ⟨RX12, "w3", "(III)J"⟩
abbrev cX12_w4 : ByteArray := prog_14_method_30_code
def yX12_w4 : MethodName := ⟨RX12, "w4", "(IIII)J"⟩
abbrev cX12_w5 : ByteArray := prog_14_method_31_code
def yX12_w5 : MethodName := ⟨RX12, "w5", "(IIIII)J"⟩
abbrev cX12_w6 : ByteArray := prog_14_method_32_code
def yX12_w6 : MethodName := ⟨RX12, "w6", "(IIIIII)J"⟩
abbrev cX12_isWord : ByteArray := prog_14_method_33_code
def yX12_isWord : MethodName := ⟨RX12, "isWord", "(J)Z"⟩
abbrev cX12_emit : ByteArray := prog_14_method_34_code
def yX12_emit : MethodName := ⟨RX12, "emit", "(II)V"⟩
abbrev cX12_nameOf : ByteArray := prog_14_method_35_code
def yX12_nameOf : MethodName := ⟨RX12, "nameOf", "()I"⟩
abbrev cX12_rank : ByteArray := prog_14_method_36_code
def yX12_rank : MethodName := ⟨RX12, "rank", "(I)I"⟩
abbrev cX12_settle : ByteArray := prog_14_method_37_code
def yX12_settle : MethodName := ⟨RX12, "settle", "(I)V"⟩
abbrev cX12_openAt : ByteArray := prog_14_method_38_code
def yX12_openAt : MethodName := ⟨RX12, "openAt", "()I"⟩
abbrev cX12_openNow : ByteArray := prog_14_method_39_code
def yX12_openNow : MethodName := ⟨RX12, "openNow", "()I"⟩
abbrev cX12_isCompared : ByteArray := prog_14_method_40_code
def yX12_isCompared : MethodName := ⟨RX12, "isCompared", "()Z"⟩
abbrev cX12_isAskAhead : ByteArray := prog_14_method_41_code
def yX12_isAskAhead : MethodName := ⟨RX12, "isAskAhead", "()Z"⟩
abbrev cX12_opened : ByteArray := prog_14_method_42_code
def yX12_opened : MethodName := ⟨RX12, "opened", "(I)I"⟩
abbrev cX12_beginOne : ByteArray := prog_14_method_43_code
def yX12_beginOne : MethodName := ⟨RX12, "beginOne", "()I"⟩
abbrev cX12_compareOf : ByteArray := prog_14_method_44_code
def yX12_compareOf : MethodName := ⟨RX12, "compareOf", "()I"⟩
abbrev cX12_betweenOf : ByteArray := prog_14_method_45_code
def yX12_betweenOf : MethodName := ⟨RX12, "betweenOf", "()I"⟩
abbrev cX12_partOf : ByteArray := prog_14_method_46_code
def yX12_partOf : MethodName := ⟨RX12, "partOf", "(I)I"⟩
abbrev cX12_behindOne : ByteArray := prog_14_method_47_code
def yX12_behindOne : MethodName := ⟨RX12, "behindOne", "()Z"⟩
abbrev cX12_summed : ByteArray := prog_14_method_48_code
def yX12_summed : MethodName := ⟨RX12, "summed", "()I"⟩
abbrev cX12_figure : ByteArray := prog_14_method_49_code
def yX12_figure : MethodName := ⟨RX12, "figure", "(III)I"⟩
abbrev cX12_lawClause : ByteArray := prog_14_method_50_code
def yX12_lawClause : MethodName := ⟨RX12, "lawClause", "(I)I"⟩
abbrev cX12_cordClause : ByteArray := prog_14_method_51_code
def yX12_cordClause : MethodName := ⟨RX12, "cordClause", "(I)I"⟩
abbrev cX12_body : ByteArray := prog_14_method_52_code
def yX12_body : MethodName := ⟨RX12, "body", "(II)I"⟩
abbrev cX12_sortOf : ByteArray := prog_14_method_53_code
def yX12_sortOf : MethodName := ⟨RX12, "sortOf", "()I"⟩
abbrev cX12_clause : ByteArray := prog_14_method_54_code
def yX12_clause : MethodName := ⟨RX12, "clause", "()I"⟩
abbrev cX12_readText : ByteArray := prog_14_method_55_code
def yX12_readText : MethodName := ⟨RX12, "readText", "()I"⟩
abbrev cX12_text : ByteArray := prog_14_method_56_code
def yX12_text : MethodName := ⟨RX12, "text", "()I"⟩
abbrev cX12_fault : ByteArray := prog_14_method_57_code
def yX12_fault : MethodName := ⟨RX12, "fault", "(I)I"⟩
abbrev cX12_by : ByteArray := prog_14_method_58_code
def yX12_by : MethodName := ⟨RX12, "by", "(I)Z"⟩
abbrev cX12_clip : ByteArray := prog_14_method_59_code
def yX12_clip : MethodName := ⟨RX12, "clip", "(J)J"⟩
abbrev cX12_two : ByteArray := prog_14_method_60_code
def yX12_two : MethodName := ⟨RX12, "two", "(IJJ)J"⟩
abbrev cX12_isAsked : ByteArray := prog_14_method_61_code
def yX12_isAsked : MethodName := ⟨RX12, "isAsked", "(IJJ)Z"⟩
abbrev cX12_outOf : ByteArray := prog_14_method_62_code
def yX12_outOf : MethodName := ⟨RX12, "outOf", "(J)J"⟩
abbrev cX12_twosOf : ByteArray := prog_14_method_63_code
def yX12_twosOf : MethodName := ⟨RX12, "twosOf", "(J)J"⟩
abbrev cX12_ofOne : ByteArray := prog_14_method_64_code
def yX12_ofOne : MethodName := ⟨RX12, "ofOne", "(IJ)J"⟩
abbrev cX12_joined : ByteArray := prog_14_method_65_code
def yX12_joined : MethodName := ⟨RX12, "joined", "(IZZ)Z"⟩
abbrev cX12_summedUp : ByteArray := prog_14_method_66_code
def yX12_summedUp : MethodName := ⟨RX12, "summedUp", "(II)J"⟩
abbrev cX12_says : ByteArray := prog_14_method_67_code
def yX12_says : MethodName := ⟨RX12, "says", "(IIIII)I"⟩
abbrev cX12_name : ByteArray := prog_14_method_68_code
def yX12_name : MethodName := ⟨RX12, "name", "(I)V"⟩
abbrev cX12_lightsOf : ByteArray := prog_14_method_69_code
def yX12_lightsOf : MethodName := ⟨RX12, "lightsOf", "(IZ)I"⟩
abbrev cX12_failsOf : ByteArray := prog_14_method_70_code
def yX12_failsOf : MethodName := ⟨RX12, "failsOf", "(II)I"⟩
abbrev cX12_write : ByteArray := prog_14_method_71_code
def yX12_write : MethodName := ⟨RX12, "write", "(III)V"⟩
abbrev cX12_anew : ByteArray := prog_14_method_72_code
def yX12_anew : MethodName := ⟨RX12, "anew", "()V"⟩
abbrev cX12_sideBit : ByteArray := prog_14_method_73_code
def yX12_sideBit : MethodName := ⟨RX12, "sideBit", "(Z)I"⟩
abbrev cX12_outIn : ByteArray := prog_14_method_74_code
def yX12_outIn : MethodName := ⟨RX12, "outIn", "(I)I"⟩
abbrev cX12_nextOut : ByteArray := prog_14_method_75_code
def yX12_nextOut : MethodName := ⟨RX12, "nextOut", "()I"⟩
abbrev cX12_passOne : ByteArray := prog_14_method_76_code
def yX12_passOne : MethodName := ⟨RX12, "passOne", "(I)V"⟩
abbrev cX12_pass : ByteArray := prog_14_method_77_code
def yX12_pass : MethodName := ⟨RX12, "pass", "(I)V"⟩
abbrev cX12_canLight : ByteArray := prog_14_method_78_code
def yX12_canLight : MethodName := ⟨RX12, "canLight", "(IZ)Z"⟩
abbrev cX12_lightNow : ByteArray := prog_14_method_79_code
def yX12_lightNow : MethodName := ⟨RX12, "lightNow", "(IZ)I"⟩
abbrev cX12_canSnuff : ByteArray := prog_14_method_80_code
def yX12_canSnuff : MethodName := ⟨RX12, "canSnuff", "(IZ)Z"⟩
abbrev cX12_snuffNow : ByteArray := prog_14_method_81_code
def yX12_snuffNow : MethodName := ⟨RX12, "snuffNow", "(IZ)V"⟩
abbrev cX12_canRenew : ByteArray := prog_14_method_82_code
def yX12_canRenew : MethodName := ⟨RX12, "canRenew", "(I)Z"⟩
abbrev cX12_canBurn : ByteArray := prog_14_method_83_code
def yX12_canBurn : MethodName := ⟨RX12, "canBurn", "()Z"⟩
abbrev cX12_canPass : ByteArray := prog_14_method_84_code
def yX12_canPass : MethodName := ⟨RX12, "canPass", "()Z"⟩
abbrev cX12_keep : ByteArray := prog_14_method_85_code
def yX12_keep : MethodName := ⟨RX12, "keep", "()V"⟩
abbrev cX12_undo : ByteArray := prog_14_method_86_code
def yX12_undo : MethodName := ⟨RX12, "undo", "()I"⟩
abbrev cX12_light : ByteArray := prog_14_method_87_code
def yX12_light : MethodName := ⟨RX12, "light", "(IZ)I"⟩
abbrev cX12_snuff : ByteArray := prog_14_method_88_code
def yX12_snuff : MethodName := ⟨RX12, "snuff", "(IZ)Z"⟩
abbrev cX12_renew : ByteArray := prog_14_method_89_code
def yX12_renew : MethodName := ⟨RX12, "renew", "(I)Z"⟩
abbrev cX12_burn : ByteArray := prog_14_method_90_code
def yX12_burn : MethodName := ⟨RX12, "burn", "()I"⟩
abbrev cX12_arePassed : ByteArray := prog_14_method_91_code
def yX12_arePassed : MethodName := ⟨RX12, "arePassed", "(I)Z"⟩
abbrev cX12_minute : ByteArray := prog_14_method_92_code
def yX12_minute : MethodName := ⟨RX12, "minute", "(I)I"⟩
abbrev cX12_isPlayed : ByteArray := prog_14_method_93_code
def yX12_isPlayed : MethodName := ⟨RX12, "isPlayed", "(I)Z"⟩
abbrev cX12_played : ByteArray := prog_14_method_94_code
def yX12_played : MethodName := ⟨RX12, "played", "(I)I"⟩
abbrev cX12_happens : ByteArray := prog_14_method_95_code
def yX12_happens : MethodName := ⟨RX12, "happens", "(I)V"⟩
abbrev cX12_shifts : ByteArray := prog_14_method_96_code
def yX12_shifts : MethodName := ⟨RX12, "shifts", "(II)I"⟩
abbrev cX12_of : ByteArray := prog_14_method_97_code
def yX12_of : MethodName := ⟨RX12, "of", "(II)I"⟩
abbrev cX12_law : ByteArray := prog_14_method_98_code
def yX12_law : MethodName := ⟨RX12, "law", "(IZZ)I"⟩
abbrev cX12_is : ByteArray := prog_14_method_99_code
def yX12_is : MethodName := ⟨RX12, "is", "(I)I"⟩
abbrev cX12_entry : ByteArray := prog_14_method_100_code
def yX12_entry : MethodName := ⟨RX12, "entry", "(II)I"⟩
abbrev cX12_book : ByteArray := prog_14_method_101_code
def yX12_book : MethodName := ⟨RX12, "book", "(II)I"⟩
abbrev cX12_ledger : ByteArray := prog_14_method_102_code
def yX12_ledger : MethodName := ⟨RX12, "ledger", "(I)I"⟩
abbrev cX12_longest : ByteArray := prog_14_method_103_code
def yX12_longest : MethodName := ⟨RX12, "longest", "()I"⟩
abbrev cX12_burning : ByteArray := prog_14_method_104_code
def yX12_burning : MethodName := ⟨RX12, "burning", "()I"⟩
abbrev cX12_dead : ByteArray := prog_14_method_105_code
def yX12_dead : MethodName := ⟨RX12, "dead", "()I"⟩
abbrev cX12_foretold : ByteArray := prog_14_method_106_code
def yX12_foretold : MethodName := ⟨RX12, "foretold", "(II)I"⟩
abbrev cX12_out : ByteArray := prog_14_method_107_code
def yX12_out : MethodName := ⟨RX12, "out", "(I)I"⟩
abbrev cX12_layFirst : ByteArray := prog_14_method_108_code
def yX12_layFirst : MethodName := ⟨RX12, "layFirst", "(I)V"⟩
abbrev cX12_digitOf : ByteArray := prog_14_method_109_code
def yX12_digitOf : MethodName := ⟨RX12, "digitOf", "(II)I"⟩
abbrev cX12_isLighting : ByteArray := prog_14_method_110_code
def yX12_isLighting : MethodName := ⟨RX12, "isLighting", "(II)Z"⟩
abbrev cX12_isNext : ByteArray := prog_14_method_111_code
def yX12_isNext : MethodName := ⟨RX12, "isNext", "(I)Z"⟩
abbrev cX12_forget : ByteArray := prog_14_method_112_code
def yX12_forget : MethodName := ⟨RX12, "forget", "()V"⟩
abbrev cX12_mark : ByteArray := prog_14_method_113_code
def yX12_mark : MethodName := ⟨RX12, "mark", "(II)V"⟩
abbrev cX12_layGives : ByteArray := prog_14_method_114_code
def yX12_layGives : MethodName := ⟨RX12, "layGives", "(I)V"⟩
abbrev cX12_isGiven : ByteArray := prog_14_method_115_code
def yX12_isGiven : MethodName := ⟨RX12, "isGiven", "(II)Z"⟩
abbrev cX12_spans : ByteArray := prog_14_method_116_code
def yX12_spans : MethodName := ⟨RX12, "spans", "(II)I"⟩
abbrev cX12_can : ByteArray := prog_14_method_117_code
def yX12_can : MethodName := ⟨RX12, "can", "(II)Z"⟩
abbrev cX12_nearest : ByteArray := prog_14_method_118_code
def yX12_nearest : MethodName := ⟨RX12, "nearest", "(II)I"⟩
abbrev cX12_isSpanAt : ByteArray := prog_14_method_119_code
def yX12_isSpanAt : MethodName := ⟨RX12, "isSpanAt", "(II)Z"⟩
abbrev cX12_isRow : ByteArray := prog_14_method_120_code
def yX12_isRow : MethodName := ⟨RX12, "isRow", "(III)Z"⟩
abbrev cX12_layRow : ByteArray := prog_14_method_121_code
def yX12_layRow : MethodName := ⟨RX12, "layRow", "(II)I"⟩
abbrev cX12_row : ByteArray := prog_14_method_122_code
def yX12_row : MethodName := ⟨RX12, "row", "(III)I"⟩
abbrev cX12_between : ByteArray := prog_14_method_123_code
def yX12_between : MethodName := ⟨RX12, "between", "(IIZ)I"⟩
abbrev cX12_fewest : ByteArray := prog_14_method_124_code
def yX12_fewest : MethodName := ⟨RX12, "fewest", "(I)I"⟩
abbrev cX12_isCheaper : ByteArray := prog_14_method_125_code
def yX12_isCheaper : MethodName := ⟨RX12, "isCheaper", "(II)Z"⟩
abbrev cX12_cheapest : ByteArray := prog_14_method_126_code
def yX12_cheapest : MethodName := ⟨RX12, "cheapest", "(I)I"⟩
abbrev cX12_want : ByteArray := prog_14_method_127_code
def yX12_want : MethodName := ⟨RX12, "want", "(I)I"⟩
abbrev cX12_areParts : ByteArray := prog_14_method_128_code
def yX12_areParts : MethodName := ⟨RX12, "areParts", "(I)Z"⟩
abbrev cX12_isLower : ByteArray := prog_14_method_129_code
def yX12_isLower : MethodName := ⟨RX12, "isLower", "()Z"⟩
abbrev cX12_layBundle : ByteArray := prog_14_method_130_code
def yX12_layBundle : MethodName := ⟨RX12, "layBundle", "()I"⟩
abbrev cX12_bundle : ByteArray := prog_14_method_131_code
def yX12_bundle : MethodName := ⟨RX12, "bundle", "(Z)I"⟩
abbrev cX12_part : ByteArray := prog_14_method_132_code
def yX12_part : MethodName := ⟨RX12, "part", "(I)I"⟩
abbrev cX12_heldBy : ByteArray := prog_14_method_133_code
def yX12_heldBy : MethodName := ⟨RX12, "heldBy", "(II)I"⟩
abbrev cX12_turned : ByteArray := prog_14_method_134_code
def yX12_turned : MethodName := ⟨RX12, "turned", "(I)I"⟩
abbrev cX12_takenBy : ByteArray := prog_14_method_135_code
def yX12_takenBy : MethodName := ⟨RX12, "takenBy", "(III[I)I"⟩
abbrev cX12_bestOf : ByteArray := prog_14_method_136_code
def yX12_bestOf : MethodName := ⟨RX12, "bestOf", "(II[I)I"⟩
abbrev cX12_isCode : ByteArray := prog_14_method_137_code
def yX12_isCode : MethodName := ⟨RX12, "isCode", "(I)Z"⟩
abbrev cX12_layGames : ByteArray := prog_14_method_138_code
def yX12_layGames : MethodName := ⟨RX12, "layGames", "(II)V"⟩
abbrev cX12_crews : ByteArray := prog_14_method_139_code
def yX12_crews : MethodName := ⟨RX12, "crews", "(II)I"⟩
abbrev cX12_take : ByteArray := prog_14_method_140_code
def yX12_take : MethodName := ⟨RX12, "take", "(II)I"⟩
abbrev cX12_tried : ByteArray := prog_14_method_141_code
def yX12_tried : MethodName := ⟨RX12, "tried", "(IZ)I"⟩
abbrev cX12_isSuspect : ByteArray := prog_14_method_142_code
def yX12_isSuspect : MethodName := ⟨RX12, "isSuspect", "(I)Z"⟩
abbrev cX12_suspects : ByteArray := prog_14_method_143_code
def yX12_suspects : MethodName := ⟨RX12, "suspects", "(I)I"⟩
abbrev cX12_test : ByteArray := prog_14_method_144_code
def yX12_test : MethodName := ⟨RX12, "test", "()I"⟩
abbrev cX12_divisor : ByteArray := prog_14_method_145_code
def yX12_divisor : MethodName := ⟨RX12, "divisor", "(JJ)J"⟩
abbrev cX12_power : ByteArray := prog_14_method_146_code
def yX12_power : MethodName := ⟨RX12, "power", "(JI)J"⟩
abbrev cX12_share : ByteArray := prog_14_method_147_code
def yX12_share : MethodName := ⟨RX12, "share", "(JJZ)J"⟩
abbrev cX12_right : ByteArray := prog_14_method_148_code
def yX12_right : MethodName := ⟨RX12, "right", "(IIZ)J"⟩
abbrev cX12_tries : ByteArray := prog_14_method_149_code
def yX12_tries : MethodName := ⟨RX12, "tries", "(IIIZ)J"⟩
abbrev cX12_said : ByteArray := prog_14_method_150_code
def yX12_said : MethodName := ⟨RX12, "said", "(II)I"⟩
abbrev cX12_whose : ByteArray := prog_14_method_151_code
def yX12_whose : MethodName := ⟨RX12, "whose", "()I"⟩
abbrev cX12_image : ByteArray := prog_14_method_152_code
def yX12_image : MethodName := ⟨RX12, "image", "()I"⟩
abbrev cX12_back : ByteArray := prog_14_method_153_code
def yX12_back : MethodName := ⟨RX12, "back", "()I"⟩
abbrev cX12_about : ByteArray := prog_14_method_154_code
def yX12_about : MethodName := ⟨RX12, "about", "(I)I"⟩
def RJ11 : String := "java/lang/Character"
def TJ11 : u_T := fun k => match k with
  | _ => ("", "", "", false)
def tyJ11 : Nat → FieldType := fun k => match k with
  | _ => .int
abbrev cJ11_isValidCodePoint_9a6ad : ByteArray := prog_15_method_11_code
def yJ11_isValidCodePoint_9a6ad : MethodName := ⟨RJ11, "isValidCodePoint", "(I)Z"⟩
abbrev cJ11_highSurrogate_5068e : ByteArray := prog_15_method_28_code
def yJ11_highSurrogate_5068e : MethodName := ⟨RJ11, "highSurrogate", "(I)C"⟩
abbrev cJ11_lowSurrogate_5068e : ByteArray := prog_15_method_29_code
def yJ11_lowSurrogate_5068e : MethodName := ⟨RJ11, "lowSurrogate", "(I)C"⟩
def RJ6 : String := "java/lang/Integer"
def TJ6 : u_T := fun k => match k with
  | _ => ("", "", "", false)
def tyJ6 : Nat → FieldType := fun k => match k with
  | _ => .int
abbrev cJ6_bitCount_0f7a4 : ByteArray := prog_16_method_49_code
def yJ6_bitCount_0f7a4 : MethodName := ⟨RJ6, "bitCount", "(I)I"⟩
def RJ13 : String := "java/lang/Long"
def TJ13 : u_T := fun k => match k with
  | _ => ("", "", "", false)
def tyJ13 : Nat → FieldType := fun k => match k with
  | _ => .int
abbrev cJ13_bitCount_95d88 : ByteArray := prog_17_method_50_code
def yJ13_bitCount_95d88 : MethodName := ⟨RJ13, "bitCount", "(J)I"⟩
def RJ9 : String := "java/lang/Math"
def TJ9 : u_T := fun k => match k with
  | _ => ("", "", "", false)
def tyJ9 : Nat → FieldType := fun k => match k with
  | _ => .int
abbrev cJ9_abs_067f4 : ByteArray := prog_18_method_61_code
def yJ9_abs_067f4 : MethodName := ⟨RJ9, "abs", "(J)J"⟩
abbrev cJ9_max_7cf53 : ByteArray := prog_18_method_65_code
def yJ9_max_7cf53 : MethodName := ⟨RJ9, "max", "(II)I"⟩
abbrev cJ9_max_f86c9 : ByteArray := prog_18_method_66_code
def yJ9_max_f86c9 : MethodName := ⟨RJ9, "max", "(JJ)J"⟩
abbrev cJ9_min_7cf53 : ByteArray := prog_18_method_69_code
def yJ9_min_7cf53 : MethodName := ⟨RJ9, "min", "(II)I"⟩
abbrev cJ9_min_f86c9 : ByteArray := prog_18_method_70_code
def yJ9_min_f86c9 : MethodName := ⟨RJ9, "min", "(JJ)J"⟩
def RJ0 : String := "java/lang/String"
def TJ0 : u_T := fun k => match k with
  | _ => ("", "", "", false)
def tyJ0 : Nat → FieldType := fun k => match k with
  | _ => .int
abbrev cJ0_length_8abf5 : ByteArray := prog_19_method_54_code
def yJ0_length_8abf5 : MethodName := ⟨RJ0, "length", "()I"⟩
abbrev cJ0_charAt_5068e : ByteArray := prog_19_method_56_code
def yJ0_charAt_5068e : MethodName := ⟨RJ0, "charAt", "(I)C"⟩
abbrev cJ0_indexOf_0f7a4 : ByteArray := prog_19_method_79_code
def yJ0_indexOf_0f7a4 : MethodName := ⟨RJ0, "indexOf", "(I)I"⟩
abbrev cJ0_indexOf_7cf53 : ByteArray := prog_19_method_80_code
def yJ0_indexOf_7cf53 : MethodName := ⟨RJ0, "indexOf", "(II)I"⟩
abbrev cJ0_coder_7d493 : ByteArray := prog_19_method_152_code
def yJ0_coder_7d493 : MethodName := ⟨RJ0, "coder", "()B"⟩
abbrev cJ0_isLatin1_aae02 : ByteArray := prog_19_method_154_code
def yJ0_isLatin1_aae02 : MethodName := ⟨RJ0, "isLatin1", "()Z"⟩
abbrev cJ0_checkIndex_df160 : ByteArray := prog_19_method_155_code
def yJ0_checkIndex_df160 : MethodName := ⟨RJ0, "checkIndex", "(II)V"⟩
abbrev cJ0_checkBoundsBeginEnd_23922 : ByteArray := prog_19_method_158_code
def yJ0_checkBoundsBeginEnd_23922 : MethodName := ⟨RJ0, "checkBoundsBeginEnd", "(III)V"⟩
def RJ1 : String := "java/lang/StringLatin1"
def TJ1 : u_T := fun k => match k with
  | _ => ("", "", "", false)
def tyJ1 : Nat → FieldType := fun k => match k with
  | _ => .int
abbrev cJ1_charAt_3b067 : ByteArray := prog_20_method_2_code
def yJ1_charAt_3b067 : MethodName := ⟨RJ1, "charAt", "([BI)C"⟩
abbrev cJ1_canEncode_9a6ad : ByteArray := prog_20_method_4_code
def yJ1_canEncode_9a6ad : MethodName := ⟨RJ1, "canEncode", "(I)Z"⟩
abbrev cJ1_indexOf_4cfef : ByteArray := prog_20_method_22_code
def yJ1_indexOf_4cfef : MethodName := ⟨RJ1, "indexOf", "([BIII)I"⟩
abbrev cJ1_indexOfChar_4cfef : ByteArray := prog_20_method_23_code
def yJ1_indexOfChar_4cfef : MethodName := ⟨RJ1, "indexOfChar", "([BIII)I"⟩
def RJ2 : String := "java/lang/StringUTF16"
def TJ2 : u_T := fun k => match k with
  | _ => ("", "", "", false)
def tyJ2 : Nat → FieldType := fun k => match k with
  | _ => .int
abbrev cJ2_getChar_3b067 : ByteArray := prog_21_method_5_code
def yJ2_getChar_3b067 : MethodName := ⟨RJ2, "getChar", "([BI)C"⟩
abbrev cJ2_length_9d52b : ByteArray := prog_21_method_6_code
def yJ2_length_9d52b : MethodName := ⟨RJ2, "length", "([B)I"⟩
abbrev cJ2_indexOf_4cfef : ByteArray := prog_21_method_40_code
def yJ2_indexOf_4cfef : MethodName := ⟨RJ2, "indexOf", "([BIII)I"⟩
abbrev cJ2_indexOfChar_4cfef : ByteArray := prog_21_method_47_code
def yJ2_indexOfChar_4cfef : MethodName := ⟨RJ2, "indexOfChar", "([BIII)I"⟩
abbrev cJ2_indexOfCharUnsafe_4cfef : ByteArray := prog_21_method_48_code
def yJ2_indexOfCharUnsafe_4cfef : MethodName := ⟨RJ2, "indexOfCharUnsafe", "([BIII)I"⟩
abbrev cJ2_indexOfSupplementary_4cfef : ByteArray := prog_21_method_49_code
def yJ2_indexOfSupplementary_4cfef : MethodName := ⟨RJ2, "indexOfSupplementary", "([BIII)I"⟩
abbrev cJ2_charAt_3b067 : ByteArray := prog_21_method_83_code
def yJ2_charAt_3b067 : MethodName := ⟨RJ2, "charAt", "([BI)C"⟩
abbrev cJ2_checkIndex_2214a : ByteArray := prog_21_method_91_code
def yJ2_checkIndex_2214a : MethodName := ⟨RJ2, "checkIndex", "(I[B)V"⟩
abbrev cJ2_checkBoundsBeginEnd_d044e : ByteArray := prog_21_method_93_code
def yJ2_checkBoundsBeginEnd_d044e : MethodName := ⟨RJ2, "checkBoundsBeginEnd", "(II[B)V"⟩
def RJ10 : String := "java/lang/System"
def TJ10 : u_T := fun k => match k with
  | _ => ("", "", "", false)
def tyJ10 : Nat → FieldType := fun k => match k with
  | _ => .int
def RJ3 : String := "jdk/internal/util/Preconditions"
def TJ3 : u_T := fun k => match k with
  | _ => ("", "", "", false)
def tyJ3 : Nat → FieldType := fun k => match k with
  | _ => .int
abbrev cJ3_checkIndex_8e157 : ByteArray := prog_23_method_11_code
def yJ3_checkIndex_8e157 : MethodName := ⟨RJ3, "checkIndex", "(IILjava/util/function/BiFunction;)I"⟩
abbrev cJ3_checkFromToIndex_8c36e : ByteArray := prog_23_method_12_code
def yJ3_checkFromToIndex_8c36e : MethodName := ⟨RJ3, "checkFromToIndex", "(IIILjava/util/function/BiFunction;)I"⟩
def RL : String := "FuseMinutesLaw"
abbrev cL_law : ByteArray := code
def yL_law : MethodName := ⟨RL, "law", "([I)Z"⟩
end
section
/-! the cells of a run in the order in which they are made: kind (a class by its number, 20 int[], 21 long[], 22 boolean[], 23 Pit[], 24 Text[]) and length -/
def zsL : List (Nat × Nat) := [(9, 0), (5, 0), (1, 0), (20, 4), (20, 4), (20, 30), (4, 0), (23, 30), (1, 0), (20, 4), (20, 4), (20, 30), (1, 0), (20, 4), (20, 4), (20, 30), (1, 0), (20, 4), (20, 4), (20, 30), (1, 0), (20, 4), (20, 4), (20, 30), (1, 0), (20, 4), (20, 4), (20, 30), (1, 0), (20, 4), (20, 4), (20, 30), (1, 0), (20, 4), (20, 4), (20, 30), (1, 0), (20, 4), (20, 4), (20, 30), (1, 0), (20, 4), (20, 4), (20, 30), (1, 0), (20, 4), (20, 4), (20, 30), (1, 0), (20, 4), (20, 4), (20, 30), (1, 0), (20, 4), (20, 4), (20, 30), (1, 0), (20, 4), (20, 4), (20, 30), (1, 0), (20, 4), (20, 4), (20, 30), (1, 0), (20, 4), (20, 4), (20, 30), (1, 0), (20, 4), (20, 4), (20, 30), (1, 0), (20, 4), (20, 4), (20, 30), (1, 0), (20, 4), (20, 4), (20, 30), (1, 0), (20, 4), (20, 4), (20, 30), (1, 0), (20, 4), (20, 4), (20, 30), (1, 0), (20, 4), (20, 4), (20, 30), (1, 0), (20, 4), (20, 4), (20, 30), (1, 0), (20, 4), (20, 4), (20, 30), (1, 0), (20, 4), (20, 4), (20, 30), (1, 0), (20, 4), (20, 4), (20, 30), (1, 0), (20, 4), (20, 4), (20, 30), (1, 0), (20, 4), (20, 4), (20, 30), (1, 0), (20, 4), (20, 4), (20, 30), (1, 0), (20, 4), (20, 4), (20, 30), (1, 0), (20, 4), (20, 4), (20, 30), (20, 4), (20, 4), (8, 0), (20, 4), (8, 0), (20, 8), (8, 0), (20, 8), (5, 0), (1, 0), (20, 4), (20, 4), (20, 30), (4, 0), (23, 30), (1, 0), (20, 4), (20, 4), (20, 30), (1, 0), (20, 4), (20, 4), (20, 30), (1, 0), (20, 4), (20, 4), (20, 30), (1, 0), (20, 4), (20, 4), (20, 30), (1, 0), (20, 4), (20, 4), (20, 30), (1, 0), (20, 4), (20, 4), (20, 30), (1, 0), (20, 4), (20, 4), (20, 30), (1, 0), (20, 4), (20, 4), (20, 30), (1, 0), (20, 4), (20, 4), (20, 30), (1, 0), (20, 4), (20, 4), (20, 30), (1, 0), (20, 4), (20, 4), (20, 30), (1, 0), (20, 4), (20, 4), (20, 30), (1, 0), (20, 4), (20, 4), (20, 30), (1, 0), (20, 4), (20, 4), (20, 30), (1, 0), (20, 4), (20, 4), (20, 30), (1, 0), (20, 4), (20, 4), (20, 30), (1, 0), (20, 4), (20, 4), (20, 30), (1, 0), (20, 4), (20, 4), (20, 30), (1, 0), (20, 4), (20, 4), (20, 30), (1, 0), (20, 4), (20, 4), (20, 30), (1, 0), (20, 4), (20, 4), (20, 30), (1, 0), (20, 4), (20, 4), (20, 30), (1, 0), (20, 4), (20, 4), (20, 30), (1, 0), (20, 4), (20, 4), (20, 30), (1, 0), (20, 4), (20, 4), (20, 30), (1, 0), (20, 4), (20, 4), (20, 30), (1, 0), (20, 4), (20, 4), (20, 30), (1, 0), (20, 4), (20, 4), (20, 30), (1, 0), (20, 4), (20, 4), (20, 30), (1, 0), (20, 4), (20, 4), (20, 30), (20, 4), (20, 4), (8, 0), (20, 4), (8, 0), (20, 8), (8, 0), (20, 8), (2, 0), (20, 300), (24, 4), (6, 0), (20, 301), (3, 0), (21, 3856), (20, 20), (20, 20), (20, 20), (20, 5), (0, 0), (20, 4), (20, 4), (7, 0), (20, 24), (20, 24), (20, 24), (20, 300), (20, 2), (20, 2), (7, 0), (20, 24), (20, 24), (20, 24), (20, 300), (20, 2), (20, 2), (7, 0), (20, 24), (20, 24), (20, 24), (20, 300), (20, 2), (20, 2), (7, 0), (20, 24), (20, 24), (20, 24), (20, 300), (20, 2), (20, 2), (10, 0), (20, 1385), (20, 1385), (20, 2724), (20, 300), (20, 160), (20, 7), (21, 330), (22, 330), (20, 20), (20, 6), (20, 6), (20, 24), (20, 24), (22, 245776), (20, 16), (20, 5), (20, 5), (20, 256), (20, 256)]
def zs (k : Nat) : Nat × Nat := zsL.getD k (99, 0)
/-- how many fields a class has -/
def zn (ci : Nat) : Nat := ([4, 8, 11, 14, 3, 11, 4, 8, 2, 7, 37] : List Nat).getD ci 0
/-- what a field holds: 0 an int, 1 a long, 2 a reference -/
def ztL : List (List Nat) := [[2, 2, 0, 1], [0, 0, 0, 0, 2, 2, 2, 0], [2, 0, 0, 0, 0, 0, 0, 0, 0, 0, 2], [2, 0, 0, 2, 0, 0, 0, 2, 2, 2, 2, 0, 0, 0], [2, 0, 0], [2, 2, 2, 2, 0, 0, 0, 0, 2, 2, 2], [2, 2, 0, 0], [2, 2, 2, 0, 2, 0, 2, 2], [2, 0], [2, 2, 2, 2, 2, 2, 2], [2, 2, 2, 2, 0, 0, 0, 0, 0, 0, 0, 1, 0, 0, 0, 2, 0, 0, 0, 0, 2, 2, 2, 0, 0, 2, 2, 2, 2, 2, 2, 2, 0, 2, 2, 2, 2]]
def zt (ci j : Nat) : Nat := (ztL.getD ci []).getD j 9
end
section
/-! links to private members of the nest -/
def zNm : List (String × Nat × MethodName) := [("FuseMinutes", 11, ⟨"FuseMinutes$Store", "<init>", "()V"⟩), ("FuseMinutes$Store", 11, ⟨"FuseMinutes$Pit", "<init>", "()V"⟩), ("FuseMinutes$Steps", 17, ⟨"FuseMinutes$Pit", "<init>", "()V"⟩), ("FuseMinutes", 21, ⟨"FuseMinutes$Reader", "<init>", "()V"⟩), ("FuseMinutes", 56, ⟨"FuseMinutes$Bundles", "<init>", "()V"⟩), ("FuseMinutes", 61, ⟨"FuseMinutes$Text", "<init>", "()V"⟩), ("FuseMinutes$Reader", 90, ⟨"FuseMinutes", "within", "(III)Z"⟩), ("FuseMinutes$Rows", 38, ⟨"FuseMinutes", "isSpan", "(I)Z"⟩), ("FuseMinutes", 294, ⟨"FuseMinutes$Crews", "outcome", "(IIIII)I"⟩)]
def zNf : Cond := .fieldLinkNest "FuseMinutes$Rows" 79 "FuseMinutes" "THREES" "[I" "FuseMinutes"
end
section
/-! The layer of the static heap: every object of the run is a numbered cell; a memory holds what the cells hold; Z is the kit's W over it. -/
/-- memory: ints, longs, references, by cell and place -/
abbrev Mm : Type := (Nat → Nat → Int32) × (Nat → Nat → Int64) × (Nat → Nat → Option Nat)
/-- launch, class numbers, addresses of the cells, array classes, where new cells begin, the script -/
abbrev GG : Type := Launch × va_G × (Nat → Nat) × (Nat → ClassId) × Nat × (Nat × (Nat → Int32))
abbrev gD (g : GG) : va_G := g.2.1
abbrev gA (g : GG) : Nat → Nat := g.2.2.1
abbrev gC (g : GG) : Nat → ClassId := g.2.2.2.1
abbrev gB (g : GG) : Nat := g.2.2.2.2.1
abbrev gN (g : GG) : Nat := g.2.2.2.2.2.1
abbrev gX (g : GG) : Nat → Int32 := g.2.2.2.2.2.2
/-- a method: name, bytes, locals, return type -/
abbrev MM : Type := MethodName × ByteArray × Nat × Option FieldType
abbrev mO (M : MM) : String := M.1.cls
abbrev mN (M : MM) : String := M.1.name
abbrev mB (M : MM) : ByteArray := M.2.1
abbrev mL (M : MM) : Nat := M.2.2.1
abbrev mR (M : MM) : Option FieldType := M.2.2.2
abbrev FF : Type := List Frame → Array Value → State → State → Prop
abbrev vwCl : List vw_C := [(RX0, TX0, 4), (RX2, TX2, 8), (RX3, TX3, 11), (RX4, TX4, 14), (RX5, TX5, 3), (RX6, TX6, 11), (RX7, TX7, 4), (RX9, TX9, 8), (RX10, TX10, 2), (RX11, TX11, 7), (RX12, TX12, 37)]
/-- a value with cells' numbers for references, as the machine has it -/
def tr (g : GG) (v : Value) : Value := match v with
  | .ref k => .ref (gA g k)
  | w => w
theorem tr_cat (g : GG) (v : Value) : (tr g v).category = v.category := by cases v <;> rfl
def zv (g : GG) (st : List Value) : List Value := st.map (tr g)
def zl (g : GG) (lv : List (Nat × Value)) : List (Nat × Value) := lv.map (fun q => (q.1, tr g q.2))
/-- what a place of an object holds: 0 an int, 1 a long, else a reference -/
def zV (g : GG) (ty : Nat) (μ : Mm) (k j : Nat) : Value := match ty with
  | 0 => .int (μ.1 k j)
  | 1 => .long (μ.2.1 k j)
  | _ => va_rf ((μ.2.2 k j).map (gA g))
def zf (g : GG) (μ : Mm) (k ci : Nat) : List Value := (List.range (zn ci)).map (fun j => zV g (zt ci j) μ k j)
def zE (g : GG) (μ : Mm) (k : Nat) : va_E :=
  if (zs k).1 = 20 then .inl (gC g 0, (zs k).2, .inl (μ.1 k))
  else if (zs k).1 = 21 then .inl (gC g 1, (zs k).2, .inr (.inl (μ.2.1 k)))
  else if (zs k).1 = 22 then .inl (gC g 2, (zs k).2, .inl (μ.1 k))
  else if (zs k).1 = 23 then .inl (gC g 3, (zs k).2, .inr (.inr (.inr (.inr (fun j => (μ.2.2 k j).map (gA g))))))
  else if (zs k).1 = 24 then .inl (gC g 4, (zs k).2, .inr (.inr (.inr (.inr (fun j => (μ.2.2 k j).map (gA g))))))
  else .inr ((zs k).1, zf g μ k (zs k).1)
def zW (g : GG) (n : Nat) (μ : Mm) : va_W := (List.range n).map (fun k => (gA g k, zE g μ k))
def zA (g : GG) : Nat → Prop := fun q => gB g ≤ q
abbrev zty (g : GG) : List (ClassId × FieldType) := [(gC g 0, .int), (gC g 1, .long), (gC g 2, .boolean), (gC g 3, .object RX2), (gC g 4, .object RX9)]
abbrev zR (g : GG) (n : Nat) (μ : Mm) (U : State) (H : Heap) : Prop := va_K (gD g) vwCl (zty g) U ∧ va_P (gD g) vwCl (zW g n μ) H ∧ va_D (zA g) (zW g n μ)
def zth (j : Nat) : Int32 := ([1, 3, 9, 27] : List Int32).getD j 0
/-- the words that last from a method to its callees -/
def zTb : List Cond := lw_tbl.filter goodWord
theorem zm {w : Cond} (i : Nat) (h : lw_tbl[i]? = some w) (hg : goodWord w = true) : w ∈ zTb := List.mem_filter.mpr ⟨List.mem_of_getElem? h, hg⟩
abbrev zNw (U : State) : Prop := (∀ q ∈ zNm, va_Nw (.methodLinkNest q.1 q.2.1 q.2.2 "FuseMinutes") U) ∧ va_Nw zNf U
/-- what lies outside: the row THREES (1000), the script (1001) -/
abbrev zX (g : GG) (U : State) (H : Heap) : Prop :=
  va_Z RX11 "THREES" "[I" (.ref (gA g 1000)) (zA g) U H ∧ va_T .int (gA g 1000) 4 (fun j => .int (zth j)) (zA g) U H ∧ va_X (gA g 1001) (gN g) (gX g) U H ∧ ¬ zA g (gA g 1001) ∧ zNw U
abbrev zC (g : GG) (d : Nat) (N : Nat × Nat) (M : MM) (p : Program) (s : State) (m : MethodId) (args : Array Value) (meth : Method) (c : Code) (R : Room) : Prop :=
  p.tables.exec = Jvm.exec ∧ c.code = mB M ∧ meth.sig.returnType = mR M ∧ c.maxLocals = mL M ∧ s.vm.findClass (mO M) = some m.cls ∧ (∀ w ∈ zTb, w.before args s = true) ∧ meth.locks = false ∧ meth.name = mN M ∧ zX g s s.heap ∧ d ≤ R.frames ∧ 64 * d ≤ R.locals ∧ N.1 ≤ R.cells ∧ N.2 ≤ R.slots
/-- the machine at pc, with these locals, this stack and this memory, comes to F -/
def Z (g : GG) (d : Nat) (N : Nat × Nat) (M : MM) (n cl sl pc : Nat) (lv : List (Nat × Value)) (st : List Value) (μ : Mm) (F : FF) : Prop :=
  ∀ (p : Program) (e : Env) (s : State) (m : MethodId) (args : Array Value) (below : List Frame) (meth : Method) (c : Code) (R : Room) (H : Heap) (locs : List Loc) (ls : Array Slot),
    zC g d N M p s m args meth c R → zR g n μ s H → va_S (zA g) s.heap H locs → lv_has ls (mL M) (zl g lv) → W p g.1 e R s m args below meth c H locs cl sl (F below args s) (F0 m pc ls (zv g st))
-- cells of the world
theorem zW_get (g : GG) {n : Nat} (μ : Mm) {k : Nat} (h : k < n) : (zW g n μ)[k]? = some (gA g k, zE g μ k) := by
  simp [zW, h]
theorem zW_set (g : GG) {n : Nat} {μ μ' : Mm} {k : Nat} (h : k < n) {E : va_E} (hE : zE g μ' k = E) (ho : ∀ j, j ≠ k → zE g μ' j = zE g μ j) : (zW g n μ).set k (gA g k, E) = zW g n μ' := by
  apply List.ext_getElem?
  intro i
  by_cases hi : i = k
  · subst hi
    rw [zW_get g μ' h, List.getElem?_set_self (by simp [zW, h]), hE]
  · rw [List.getElem?_set_ne (Ne.symm hi)]
    by_cases hn : i < n
    · rw [zW_get g μ hn, zW_get g μ' hn, ho i hi]
    · simp [zW, hn]
/-- a cell's number and kind -/
def zk (n q : Nat) (t : Nat × Nat) : Prop := q < n ∧ zs q = t
theorem zE_i {g : GG} {n q L : Nat} (μ : Mm) (h : zk n q (20, L)) : zE g μ q = .inl (gC g 0, L, .inl (μ.1 q)) := by simp [zE, h.2]
theorem zE_l {g : GG} {n q L : Nat} (μ : Mm) (h : zk n q (21, L)) : zE g μ q = .inl (gC g 1, L, .inr (.inl (μ.2.1 q))) := by simp [zE, h.2]
theorem zE_z {g : GG} {n q L : Nat} (μ : Mm) (h : zk n q (22, L)) : zE g μ q = .inl (gC g 2, L, .inl (μ.1 q)) := by simp [zE, h.2]
theorem zE_p {g : GG} {n q L : Nat} (μ : Mm) (h : zk n q (23, L)) : zE g μ q = .inl (gC g 3, L, .inr (.inr (.inr (.inr (fun j => (μ.2.2 q j).map (gA g)))))) := by simp [zE, h.2]
theorem zE_t {g : GG} {n q L : Nat} (μ : Mm) (h : zk n q (24, L)) : zE g μ q = .inl (gC g 4, L, .inr (.inr (.inr (.inr (fun j => (μ.2.2 q j).map (gA g)))))) := by simp [zE, h.2]
theorem zE_o {g : GG} {n q ci : Nat} (μ : Mm) (h : zk n q (ci, 0)) (hc : ci < 11) : zE g μ q = .inr (ci, zf g μ q ci) := by
  have h2 := h.2
  simp only [zE, h2]
  rw [if_neg (by omega), if_neg (by omega), if_neg (by omega), if_neg (by omega), if_neg (by omega)]
-- changes of a memory
def zsi (μ : Mm) (q j : Nat) (v : Int32) : Mm := (va_up μ.1 q (upd (μ.1 q) j v), μ.2)
def zsl (μ : Mm) (q j : Nat) (v : Int64) : Mm := (μ.1, va_up μ.2.1 q (vp_updL (μ.2.1 q) j v), μ.2.2)
def zsr (μ : Mm) (q j : Nat) (v : Option Nat) : Mm := (μ.1, μ.2.1, va_up μ.2.2 q (va_up (μ.2.2 q) j v))
theorem zE_ne {g : GG} {μ μ' : Mm} {j : Nat} (h1 : μ'.1 j = μ.1 j) (h2 : μ'.2.1 j = μ.2.1 j) (h3 : μ'.2.2 j = μ.2.2 j) : zE g μ' j = zE g μ j := by
  have hV : ∀ ty i, zV g ty μ' j i = zV g ty μ j i := fun ty i => by
    unfold zV; rw [h1, h2, h3]
  have hf : ∀ ci, zf g μ' j ci = zf g μ j ci := fun ci => by
    unfold zf; simp only [hV]
  unfold zE
  rw [h1, h2, h3, hf]
theorem zsi_ne {g : GG} {μ : Mm} {q i : Nat} {v : Int32} : ∀ j, j ≠ q → zE g (zsi μ q i v) j = zE g μ j := fun j h => zE_ne (by simp [zsi, va_up, h]) rfl rfl
theorem zsl_ne {g : GG} {μ : Mm} {q i : Nat} {v : Int64} : ∀ j, j ≠ q → zE g (zsl μ q i v) j = zE g μ j := fun j h => zE_ne rfl (by simp [zsl, va_up, h]) rfl
theorem zsr_ne {g : GG} {μ : Mm} {q i : Nat} {v : Option Nat} : ∀ j, j ≠ q → zE g (zsr μ q i v) j = zE g μ j := fun j h => zE_ne rfl rfl (by simp [zsr, va_up, h])
theorem zf_len (g : GG) (μ : Mm) (q ci : Nat) : (zf g μ q ci).length = zn ci := by simp [zf]
theorem zf_get (g : GG) (μ : Mm) (q ci : Nat) {j : Nat} (h : j < zn ci) : (zf g μ q ci)[j]? = some (zV g (zt ci j) μ q j) := by simp [zf, h]
theorem zf_set {g : GG} {μ μ' : Mm} {q ci j : Nat} {v : Value} (hv : zV g (zt ci j) μ' q j = v) (ho : ∀ i, i ≠ j → zV g (zt ci i) μ' q i = zV g (zt ci i) μ q i) (hj : j < zn ci) : (zf g μ q ci).set j v = zf g μ' q ci := by
  apply List.ext_getElem?
  intro i
  by_cases hi : i = j
  · subst hi
    rw [zf_get g μ' q ci hj, List.getElem?_set_self (by rw [zf_len]; exact hj), hv]
  · rw [List.getElem?_set_ne (Ne.symm hi)]
    by_cases hn : i < zn ci
    · rw [zf_get g μ q ci hn, zf_get g μ' q ci hn, ho i hi]
    · simp [zf, hn]
theorem zR_set {g : GG} {n : Nat} {μ μ' : Mm} {U : State} {H1 : Heap} {k : Nat} {E : va_E} (hK : va_K (gD g) vwCl (zty g) U) (hk : k < n) (hE : zE g μ' k = E) (ho : ∀ j, j ≠ k → zE g μ' j = zE g μ j) (hP : va_P (gD g) vwCl ((zW g n μ).set k (gA g k, E)) H1) (hD : va_D (zA g) ((zW g n μ).set k (gA g k, E))) : zR g n μ' U H1 := by
  rw [zW_set g hk hE ho] at hP hD
  exact ⟨hK, hP, hD⟩
end
section
/-! The rows of the layer: an instruction, a row. -/
section ZS
variable {g : GG} {d : Nat} {N : Nat × Nat} {M : MM} {n cl sl pc : Nat} {lv lv2 : List (Nat × Value)} {st : List Value} {μ : Mm} {F : FF}
theorem zl_at {j i : Nat} {v : Value} (g : GG) (h : lv[j]? = some (i, v)) : (zl g lv)[j]? = some (i, tr g v) := by simp [zl, h]
theorem zl_st (g : GG) (i : Nat) (v : Value) (P : Nat → Nat → Bool) : zl g ((i, v) :: lv.filter (fun q => P q.1 q.2.category)) = (i, tr g v) :: (zl g lv).filter (fun q => P q.1 q.2.category) := by
  simp only [zl, List.map_cons, List.filter_map, Function.comp_def, tr_cat]
theorem z_iconst {i : Int} {v : Int32} (hd : decode (mB M) pc = .ok (.iconst i, 1)) (hv : Int32.ofInt i = v) (k : Z g d N M n cl sl (pc + 1) lv (.int v :: st) μ F) : Z g d N M n cl sl pc lv st μ F := fun p e s m args below meth c R H locs ls C Rl S L => lv_iconst C.1 C.2.1 hd hv (k p e s m args below meth c R H locs ls C Rl S L)
theorem z_bipush {i : Int} {v : Int32} (hd : decode (mB M) pc = .ok (.bipush i, 2)) (hv : (Int8.ofInt i).toInt32 = v) (k : Z g d N M n cl sl (pc + 2) lv (.int v :: st) μ F) : Z g d N M n cl sl pc lv st μ F := fun p e s m args below meth c R H locs ls C Rl S L => lv_bipush C.1 C.2.1 hd hv (k p e s m args below meth c R H locs ls C Rl S L)
theorem z_sipush {i : Int} {v : Int32} (hd : decode (mB M) pc = .ok (.sipush i, 3)) (hv : (Int16.ofInt i).toInt32 = v) (k : Z g d N M n cl sl (pc + 3) lv (.int v :: st) μ F) : Z g d N M n cl sl pc lv st μ F := fun p e s m args below meth c R H locs ls C Rl S L => lv_sipush C.1 C.2.1 hd hv (k p e s m args below meth c R H locs ls C Rl S L)
theorem z_lconst {i : Fin 2} {v : Int64} (hd : decode (mB M) pc = .ok (.lconst i, 1)) (hv : Int64.ofNat i = v) (k : Z g d N M n cl sl (pc + 1) lv (.long v :: st) μ F) : Z g d N M n cl sl pc lv st μ F := fun p e s m args below meth c R H locs ls C Rl S L => lv_lconst C.1 C.2.1 hd hv (k p e s m args below meth c R H locs ls C Rl S L)
theorem z_ldc {i : Nat} {v : Int32} (hd : decode (mB M) pc = .ok (.ldc i, 2)) (hw : Cond.constant (mO M) i v ∈ zTb) (k : Z g d N M n cl sl (pc + 2) lv (.int v :: st) μ F) : Z g d N M n cl sl pc lv st μ F := fun p e s m args below meth c R H locs ls C Rl S L => lv_ldc C.1 C.2.1 C.2.2.2.2.1 (C.2.2.2.2.2.1 _ hw) hd (k p e s m args below meth c R H locs ls C Rl S L)
theorem z_ldcw {i : Nat} {v : Int32} (hd : decode (mB M) pc = .ok (.ldc_w i, 3)) (hw : Cond.constant (mO M) i v ∈ zTb) (k : Z g d N M n cl sl (pc + 3) lv (.int v :: st) μ F) : Z g d N M n cl sl pc lv st μ F := fun p e s m args below meth c R H locs ls C Rl S L => lv_ldcw C.1 C.2.1 C.2.2.2.2.1 (C.2.2.2.2.2.1 _ hw) hd (k p e s m args below meth c R H locs ls C Rl S L)
theorem z_ldc2 {i : Nat} {v : Int64} (hd : decode (mB M) pc = .ok (.ldc2_w i, 3)) (hw : Cond.constantLong (mO M) i v ∈ zTb) (k : Z g d N M n cl sl (pc + 3) lv (.long v :: st) μ F) : Z g d N M n cl sl pc lv st μ F := fun p e s m args below meth c R H locs ls C Rl S L => lv_ldc2 C.1 C.2.1 C.2.2.2.2.1 (C.2.2.2.2.2.1 _ hw) hd (k p e s m args below meth c R H locs ls C Rl S L)
theorem z_iload_n {i : Fin 4} {x : Int32} (hd : decode (mB M) pc = .ok (.iload_n i, 1)) (j : Nat) (hj : lv[j]? = some ((i : Nat), .int x)) (k : Z g d N M n cl sl (pc + 1) lv (.int x :: st) μ F) : Z g d N M n cl sl pc lv st μ F := fun p e s m args below meth c R H locs ls C Rl S L => lv_iload_n C.1 C.2.1 hd rfl (lv_at L j (zl_at g hj)) (k p e s m args below meth c R H locs ls C Rl S L)
theorem z_iload {i : Nat} {x : Int32} (hd : decode (mB M) pc = .ok (.iload i, 2)) (j : Nat) (hj : lv[j]? = some (i, .int x)) (k : Z g d N M n cl sl (pc + 2) lv (.int x :: st) μ F) : Z g d N M n cl sl pc lv st μ F := fun p e s m args below meth c R H locs ls C Rl S L => lv_iload C.1 C.2.1 hd (lv_at L j (zl_at g hj)) (k p e s m args below meth c R H locs ls C Rl S L)
theorem z_lload_n {i : Fin 4} {x : Int64} (hd : decode (mB M) pc = .ok (.lload_n i, 1)) (j : Nat) (hj : lv[j]? = some ((i : Nat), .long x)) (k : Z g d N M n cl sl (pc + 1) lv (.long x :: st) μ F) : Z g d N M n cl sl pc lv st μ F := fun p e s m args below meth c R H locs ls C Rl S L => lv_lload_n C.1 C.2.1 hd rfl (lv_at L j (zl_at g hj)) (k p e s m args below meth c R H locs ls C Rl S L)
theorem z_lload {i : Nat} {x : Int64} (hd : decode (mB M) pc = .ok (.lload i, 2)) (j : Nat) (hj : lv[j]? = some (i, .long x)) (k : Z g d N M n cl sl (pc + 2) lv (.long x :: st) μ F) : Z g d N M n cl sl pc lv st μ F := fun p e s m args below meth c R H locs ls C Rl S L => lv_lload C.1 C.2.1 hd (lv_at L j (zl_at g hj)) (k p e s m args below meth c R H locs ls C Rl S L)
theorem z_aload_n {i : Fin 4} {x : Nat} (hd : decode (mB M) pc = .ok (.aload_n i, 1)) (j : Nat) (hj : lv[j]? = some ((i : Nat), .ref x)) (k : Z g d N M n cl sl (pc + 1) lv (.ref x :: st) μ F) : Z g d N M n cl sl pc lv st μ F := fun p e s m args below meth c R H locs ls C Rl S L => lv_aload_n C.1 C.2.1 hd rfl (lv_at L j (zl_at g hj)) (k p e s m args below meth c R H locs ls C Rl S L)
theorem z_aload {i : Nat} {x : Nat} (hd : decode (mB M) pc = .ok (.aload i, 2)) (j : Nat) (hj : lv[j]? = some (i, .ref x)) (k : Z g d N M n cl sl (pc + 2) lv (.ref x :: st) μ F) : Z g d N M n cl sl pc lv st μ F := fun p e s m args below meth c R H locs ls C Rl S L => lv_aload C.1 C.2.1 hd (lv_at L j (zl_at g hj)) (k p e s m args below meth c R H locs ls C Rl S L)
theorem z_istore_n {i : Fin 4} {x : Int32} (hd : decode (mB M) pc = .ok (.istore_n i, 1)) (hn : (i : Nat) < mL M) (hl : ((i : Nat), Value.int x) :: lv.filter (fun q => !(q.1 == (i : Nat)) && !(q.1 + 1 == (i : Nat) && q.2.category == 2)) = lv2) (k : Z g d N M n cl sl (pc + 1) lv2 st μ F) : Z g d N M n cl sl pc lv (.int x :: st) μ F := fun p e s m args below meth c R H locs ls C Rl S L => lv_istore_n C.1 C.2.1 hd rfl L hn rfl (fun ls2 L2 => k p e s m args below meth c R H locs ls2 C Rl S (by rw [← hl, zl_st g _ _ (fun a b => !(a == (i : Nat)) && !(a + 1 == (i : Nat) && b == 2))]; exact L2))
theorem z_istore {i : Nat} {x : Int32} (hd : decode (mB M) pc = .ok (.istore i, 2)) (hn : i < mL M) (hl : (i, Value.int x) :: lv.filter (fun q => !(q.1 == i) && !(q.1 + 1 == i && q.2.category == 2)) = lv2) (k : Z g d N M n cl sl (pc + 2) lv2 st μ F) : Z g d N M n cl sl pc lv (.int x :: st) μ F := fun p e s m args below meth c R H locs ls C Rl S L => lv_istore C.1 C.2.1 hd L hn rfl (fun ls2 L2 => k p e s m args below meth c R H locs ls2 C Rl S (by rw [← hl, zl_st g _ _ (fun a b => !(a == i) && !(a + 1 == i && b == 2))]; exact L2))
theorem z_lstore_n {i : Fin 4} {x : Int64} (hd : decode (mB M) pc = .ok (.lstore_n i, 1)) (hn : (i : Nat) + 1 < mL M) (hl : ((i : Nat), Value.long x) :: lv.filter (fun q => !(q.1 == (i : Nat)) && (!(q.1 == (i : Nat) + 1) && !(q.1 + 1 == (i : Nat) && q.2.category == 2))) = lv2) (k : Z g d N M n cl sl (pc + 1) lv2 st μ F) : Z g d N M n cl sl pc lv (.long x :: st) μ F := fun p e s m args below meth c R H locs ls C Rl S L => lv_lstore_n C.1 C.2.1 hd rfl L hn rfl (fun ls2 L2 => k p e s m args below meth c R H locs ls2 C Rl S (by rw [← hl, zl_st g _ _ (fun a b => !(a == (i : Nat)) && (!(a == (i : Nat) + 1) && !(a + 1 == (i : Nat) && b == 2)))]; exact L2))
theorem z_lstore {i : Nat} {x : Int64} (hd : decode (mB M) pc = .ok (.lstore i, 2)) (hn : i + 1 < mL M) (hl : (i, Value.long x) :: lv.filter (fun q => !(q.1 == i) && (!(q.1 == i + 1) && !(q.1 + 1 == i && q.2.category == 2))) = lv2) (k : Z g d N M n cl sl (pc + 2) lv2 st μ F) : Z g d N M n cl sl pc lv (.long x :: st) μ F := fun p e s m args below meth c R H locs ls C Rl S L => lv_lstore C.1 C.2.1 hd L hn rfl (fun ls2 L2 => k p e s m args below meth c R H locs ls2 C Rl S (by rw [← hl, zl_st g _ _ (fun a b => !(a == i) && (!(a == i + 1) && !(a + 1 == i && b == 2)))]; exact L2))
theorem z_astore_n {i : Fin 4} {x : Nat} (hd : decode (mB M) pc = .ok (.astore_n i, 1)) (hn : (i : Nat) < mL M) (hl : ((i : Nat), Value.ref x) :: lv.filter (fun q => !(q.1 == (i : Nat)) && !(q.1 + 1 == (i : Nat) && q.2.category == 2)) = lv2) (k : Z g d N M n cl sl (pc + 1) lv2 st μ F) : Z g d N M n cl sl pc lv (.ref x :: st) μ F := fun p e s m args below meth c R H locs ls C Rl S L => lv_astore_n C.1 C.2.1 hd rfl L hn rfl (fun ls2 L2 => k p e s m args below meth c R H locs ls2 C Rl S (by rw [← hl, zl_st g _ _ (fun a b => !(a == (i : Nat)) && !(a + 1 == (i : Nat) && b == 2))]; exact L2))
theorem z_astore {i : Nat} {x : Nat} (hd : decode (mB M) pc = .ok (.astore i, 2)) (hn : i < mL M) (hl : (i, Value.ref x) :: lv.filter (fun q => !(q.1 == i) && !(q.1 + 1 == i && q.2.category == 2)) = lv2) (k : Z g d N M n cl sl (pc + 2) lv2 st μ F) : Z g d N M n cl sl pc lv (.ref x :: st) μ F := fun p e s m args below meth c R H locs ls C Rl S L => lv_astore C.1 C.2.1 hd L hn rfl (fun ls2 L2 => k p e s m args below meth c R H locs ls2 C Rl S (by rw [← hl, zl_st g _ _ (fun a b => !(a == i) && !(a + 1 == i && b == 2))]; exact L2))
theorem z_iinc {i : Nat} {t : Int} {x v : Int32} (hd : decode (mB M) pc = .ok (.iinc i t, 3)) (j : Nat) (hj : lv[j]? = some (i, .int x)) (hv : x + Int32.ofInt t = v) (hn : i < mL M) (hl : (i, Value.int v) :: lv.filter (fun q => !(q.1 == i) && !(q.1 + 1 == i && q.2.category == 2)) = lv2) (k : Z g d N M n cl sl (pc + 3) lv2 st μ F) : Z g d N M n cl sl pc lv st μ F := fun p e s m args below meth c R H locs ls C Rl S L => lv_iinc C.1 C.2.1 hd L (k := j) (zl_at g hj) hv hn rfl (fun ls2 L2 => k p e s m args below meth c R H locs ls2 C Rl S (by rw [← hl, zl_st g _ _ (fun a b => !(a == i) && !(a + 1 == i && b == 2))]; exact L2))
theorem z_iadd {x : Int32} {y : Int32} (hd : decode (mB M) pc = .ok (.iadd, 1))  (k : Z g d N M n cl sl (pc + 1) lv (.int (x + y) :: st) μ F) : Z g d N M n cl sl pc lv (.int y :: .int x :: st) μ F := fun p e s m args below meth c R H locs ls C Rl S L => lv_iadd C.1 C.2.1 hd   (k p e s m args below meth c R H locs ls C Rl S L)
theorem z_isub {x : Int32} {y : Int32} (hd : decode (mB M) pc = .ok (.isub, 1))  (k : Z g d N M n cl sl (pc + 1) lv (.int (x - y) :: st) μ F) : Z g d N M n cl sl pc lv (.int y :: .int x :: st) μ F := fun p e s m args below meth c R H locs ls C Rl S L => lv_isub C.1 C.2.1 hd   (k p e s m args below meth c R H locs ls C Rl S L)
theorem z_imul {x : Int32} {y : Int32} (hd : decode (mB M) pc = .ok (.imul, 1))  (k : Z g d N M n cl sl (pc + 1) lv (.int (x * y) :: st) μ F) : Z g d N M n cl sl pc lv (.int y :: .int x :: st) μ F := fun p e s m args below meth c R H locs ls C Rl S L => lv_imul C.1 C.2.1 hd   (k p e s m args below meth c R H locs ls C Rl S L)
theorem z_iand {x : Int32} {y : Int32} (hd : decode (mB M) pc = .ok (.iand, 1))  (k : Z g d N M n cl sl (pc + 1) lv (.int (x &&& y) :: st) μ F) : Z g d N M n cl sl pc lv (.int y :: .int x :: st) μ F := fun p e s m args below meth c R H locs ls C Rl S L => lv_iand C.1 C.2.1 hd   (k p e s m args below meth c R H locs ls C Rl S L)
theorem z_ior {x : Int32} {y : Int32} (hd : decode (mB M) pc = .ok (.ior, 1))  (k : Z g d N M n cl sl (pc + 1) lv (.int (x ||| y) :: st) μ F) : Z g d N M n cl sl pc lv (.int y :: .int x :: st) μ F := fun p e s m args below meth c R H locs ls C Rl S L => lv_ior C.1 C.2.1 hd   (k p e s m args below meth c R H locs ls C Rl S L)
theorem z_ixor {x : Int32} {y : Int32} (hd : decode (mB M) pc = .ok (.ixor, 1))  (k : Z g d N M n cl sl (pc + 1) lv (.int (x ^^^ y) :: st) μ F) : Z g d N M n cl sl pc lv (.int y :: .int x :: st) μ F := fun p e s m args below meth c R H locs ls C Rl S L => lv_ixor C.1 C.2.1 hd   (k p e s m args below meth c R H locs ls C Rl S L)
theorem z_ishl {x : Int32} {y : Int32} (hd : decode (mB M) pc = .ok (.ishl, 1))  (k : Z g d N M n cl sl (pc + 1) lv (.int (x <<< (y &&& 31)) :: st) μ F) : Z g d N M n cl sl pc lv (.int y :: .int x :: st) μ F := fun p e s m args below meth c R H locs ls C Rl S L => lv_ishl C.1 C.2.1 hd   (k p e s m args below meth c R H locs ls C Rl S L)
theorem z_ishr {x : Int32} {y : Int32} (hd : decode (mB M) pc = .ok (.ishr, 1))  (k : Z g d N M n cl sl (pc + 1) lv (.int (x >>> (y &&& 31)) :: st) μ F) : Z g d N M n cl sl pc lv (.int y :: .int x :: st) μ F := fun p e s m args below meth c R H locs ls C Rl S L => lv_ishr C.1 C.2.1 hd   (k p e s m args below meth c R H locs ls C Rl S L)
theorem z_idiv {x : Int32} {y : Int32} (hd : decode (mB M) pc = .ok (.idiv, 1)) (hne : ¬ y = 0) (k : Z g d N M n cl sl (pc + 1) lv (.int (x / y) :: st) μ F) : Z g d N M n cl sl pc lv (.int y :: .int x :: st) μ F := fun p e s m args below meth c R H locs ls C Rl S L => lv_idiv C.1 C.2.1 hd hne  (k p e s m args below meth c R H locs ls C Rl S L)
theorem z_irem {x : Int32} {y : Int32} (hd : decode (mB M) pc = .ok (.irem, 1)) (hne : ¬ y = 0) (k : Z g d N M n cl sl (pc + 1) lv (.int (x - x / y * y) :: st) μ F) : Z g d N M n cl sl pc lv (.int y :: .int x :: st) μ F := fun p e s m args below meth c R H locs ls C Rl S L => lv_irem C.1 C.2.1 hd hne  (k p e s m args below meth c R H locs ls C Rl S L)
theorem z_ladd {x : Int64} {y : Int64} (hd : decode (mB M) pc = .ok (.ladd, 1))  (k : Z g d N M n cl sl (pc + 1) lv (.long (x + y) :: st) μ F) : Z g d N M n cl sl pc lv (.long y :: .long x :: st) μ F := fun p e s m args below meth c R H locs ls C Rl S L => lv_ladd C.1 C.2.1 hd   (k p e s m args below meth c R H locs ls C Rl S L)
theorem z_lsub {x : Int64} {y : Int64} (hd : decode (mB M) pc = .ok (.lsub, 1))  (k : Z g d N M n cl sl (pc + 1) lv (.long (x - y) :: st) μ F) : Z g d N M n cl sl pc lv (.long y :: .long x :: st) μ F := fun p e s m args below meth c R H locs ls C Rl S L => lv_lsub C.1 C.2.1 hd   (k p e s m args below meth c R H locs ls C Rl S L)
theorem z_lmul {x : Int64} {y : Int64} (hd : decode (mB M) pc = .ok (.lmul, 1))  (k : Z g d N M n cl sl (pc + 1) lv (.long (x * y) :: st) μ F) : Z g d N M n cl sl pc lv (.long y :: .long x :: st) μ F := fun p e s m args below meth c R H locs ls C Rl S L => lv_lmul C.1 C.2.1 hd   (k p e s m args below meth c R H locs ls C Rl S L)
theorem z_land {x : Int64} {y : Int64} (hd : decode (mB M) pc = .ok (.land, 1))  (k : Z g d N M n cl sl (pc + 1) lv (.long (x &&& y) :: st) μ F) : Z g d N M n cl sl pc lv (.long y :: .long x :: st) μ F := fun p e s m args below meth c R H locs ls C Rl S L => lv_land C.1 C.2.1 hd   (k p e s m args below meth c R H locs ls C Rl S L)
theorem z_lor {x : Int64} {y : Int64} (hd : decode (mB M) pc = .ok (.lor, 1))  (k : Z g d N M n cl sl (pc + 1) lv (.long (x ||| y) :: st) μ F) : Z g d N M n cl sl pc lv (.long y :: .long x :: st) μ F := fun p e s m args below meth c R H locs ls C Rl S L => lv_lor C.1 C.2.1 hd   (k p e s m args below meth c R H locs ls C Rl S L)
theorem z_ldiv {x : Int64} {y : Int64} (hd : decode (mB M) pc = .ok (.ldiv, 1)) (hne : ¬ y = 0) (k : Z g d N M n cl sl (pc + 1) lv (.long (x / y) :: st) μ F) : Z g d N M n cl sl pc lv (.long y :: .long x :: st) μ F := fun p e s m args below meth c R H locs ls C Rl S L => lv_ldiv C.1 C.2.1 hd hne  (k p e s m args below meth c R H locs ls C Rl S L)
theorem z_lrem {x : Int64} {y : Int64} (hd : decode (mB M) pc = .ok (.lrem, 1)) (hne : ¬ y = 0) (k : Z g d N M n cl sl (pc + 1) lv (.long (x - x / y * y) :: st) μ F) : Z g d N M n cl sl pc lv (.long y :: .long x :: st) μ F := fun p e s m args below meth c R H locs ls C Rl S L => lv_lrem C.1 C.2.1 hd hne  (k p e s m args below meth c R H locs ls C Rl S L)
theorem z_iushr {x : Int32} {y : Int32} (hd : decode (mB M) pc = .ok (.iushr, 1))  (k : Z g d N M n cl sl (pc + 1) lv (.int ((x.toUInt32 >>> (y.toUInt32 &&& Int32.toUInt32 31)).toInt32) :: st) μ F) : Z g d N M n cl sl pc lv (.int y :: .int x :: st) μ F := fun p e s m args below meth c R H locs ls C Rl S L => lv_iushr C.1 C.2.1 hd  rfl (k p e s m args below meth c R H locs ls C Rl S L)
theorem z_lshl {x : Int64} {y : Int32} (hd : decode (mB M) pc = .ok (.lshl, 1))  (k : Z g d N M n cl sl (pc + 1) lv (.long (x <<< (y.toInt64 &&& 63)) :: st) μ F) : Z g d N M n cl sl pc lv (.int y :: .long x :: st) μ F := fun p e s m args below meth c R H locs ls C Rl S L => lv_lshl C.1 C.2.1 hd  rfl (k p e s m args below meth c R H locs ls C Rl S L)
theorem z_lshr {x : Int64} {y : Int32} (hd : decode (mB M) pc = .ok (.lshr, 1))  (k : Z g d N M n cl sl (pc + 1) lv (.long (x >>> (y.toInt64 &&& 63)) :: st) μ F) : Z g d N M n cl sl pc lv (.int y :: .long x :: st) μ F := fun p e s m args below meth c R H locs ls C Rl S L => lv_lshr C.1 C.2.1 hd  rfl (k p e s m args below meth c R H locs ls C Rl S L)
theorem z_lushr {x : Int64} {y : Int32} (hd : decode (mB M) pc = .ok (.lushr, 1))  (k : Z g d N M n cl sl (pc + 1) lv (.long ((x.toUInt64 >>> (y.toInt64.toUInt64 &&& Int64.toUInt64 63)).toInt64) :: st) μ F) : Z g d N M n cl sl pc lv (.int y :: .long x :: st) μ F := fun p e s m args below meth c R H locs ls C Rl S L => lv_lushr C.1 C.2.1 hd  rfl (k p e s m args below meth c R H locs ls C Rl S L)
theorem z_lcmp {x y : Int64} (hd : decode (mB M) pc = .ok (.lcmp, 1)) (k : Z g d N M n cl sl (pc + 1) lv (.int (lg_cmp x y) :: st) μ F) : Z g d N M n cl sl pc lv (.long y :: .long x :: st) μ F := fun p e s m args below meth c R H locs ls C Rl S L => W.lcmp C.1 C.2.1 hd (k p e s m args below meth c R H locs ls C Rl S L)
theorem z_ineg {x : Int32} (hd : decode (mB M) pc = .ok (.ineg, 1)) (k : Z g d N M n cl sl (pc + 1) lv (.int (-x) :: st) μ F) : Z g d N M n cl sl pc lv (.int x :: st) μ F := fun p e s m args below meth c R H locs ls C Rl S L => lv_ineg C.1 C.2.1 hd  (k p e s m args below meth c R H locs ls C Rl S L)
theorem z_lneg {x : Int64} (hd : decode (mB M) pc = .ok (.lneg, 1)) (k : Z g d N M n cl sl (pc + 1) lv (.long (-x) :: st) μ F) : Z g d N M n cl sl pc lv (.long x :: st) μ F := fun p e s m args below meth c R H locs ls C Rl S L => lv_lneg C.1 C.2.1 hd  (k p e s m args below meth c R H locs ls C Rl S L)
theorem z_i2l {x : Int32} (hd : decode (mB M) pc = .ok (.i2l, 1)) (k : Z g d N M n cl sl (pc + 1) lv (.long (x.toInt64) :: st) μ F) : Z g d N M n cl sl pc lv (.int x :: st) μ F := fun p e s m args below meth c R H locs ls C Rl S L => lv_i2l C.1 C.2.1 hd rfl (k p e s m args below meth c R H locs ls C Rl S L)
theorem z_l2i {x : Int64} (hd : decode (mB M) pc = .ok (.l2i, 1)) (k : Z g d N M n cl sl (pc + 1) lv (.int (x.toInt32) :: st) μ F) : Z g d N M n cl sl pc lv (.long x :: st) μ F := fun p e s m args below meth c R H locs ls C Rl S L => lv_l2i C.1 C.2.1 hd rfl (k p e s m args below meth c R H locs ls C Rl S L)
theorem z_i2c {x : Int32} (hd : decode (mB M) pc = .ok (.i2c, 1)) (k : Z g d N M n cl sl (pc + 1) lv (.int ((x.toUInt32 % 65536).toInt32) :: st) μ F) : Z g d N M n cl sl pc lv (.int x :: st) μ F := fun p e s m args below meth c R H locs ls C Rl S L => lv_i2c C.1 C.2.1 hd rfl (k p e s m args below meth c R H locs ls C Rl S L)
theorem z_i2b {x : Int32} (hd : decode (mB M) pc = .ok (.i2b, 1)) (k : Z g d N M n cl sl (pc + 1) lv (.int (x.toInt8.toInt32) :: st) μ F) : Z g d N M n cl sl pc lv (.int x :: st) μ F := fun p e s m args below meth c R H locs ls C Rl S L => lv_i2b C.1 C.2.1 hd rfl (k p e s m args below meth c R H locs ls C Rl S L)
theorem z_dup {v : Value} (hd : decode (mB M) pc = .ok (.dup, 1)) (hc : v.category = 1) (k : Z g d N M n cl sl (pc + 1) lv (v :: v :: st) μ F) : Z g d N M n cl sl pc lv (v :: st) μ F := fun p e s m args below meth c R H locs ls C Rl S L => lv_dup C.1 C.2.1 hd ((tr_cat g v).trans hc) (k p e s m args below meth c R H locs ls C Rl S L)
theorem z_pop {v : Value} (hd : decode (mB M) pc = .ok (.pop, 1)) (hc : v.category = 1) (k : Z g d N M n cl sl (pc + 1) lv st μ F) : Z g d N M n cl sl pc lv (v :: st) μ F := fun p e s m args below meth c R H locs ls C Rl S L => lv_pop C.1 C.2.1 hd ((tr_cat g v).trans hc) (k p e s m args below meth c R H locs ls C Rl S L)
theorem z_dup2 {v w : Value} (hd : decode (mB M) pc = .ok (.dup2, 1)) (hc : v.category = 1) (hc2 : w.category = 1) (k : Z g d N M n cl sl (pc + 1) lv (v :: w :: v :: w :: st) μ F) : Z g d N M n cl sl pc lv (v :: w :: st) μ F := fun p e s m args below meth c R H locs ls C Rl S L => lv_dup2_11 C.1 C.2.1 hd ((tr_cat g v).trans hc) ((tr_cat g w).trans hc2) (k p e s m args below meth c R H locs ls C Rl S L)
theorem z_dup2l {v : Value} (hd : decode (mB M) pc = .ok (.dup2, 1)) (hc : v.category = 2) (k : Z g d N M n cl sl (pc + 1) lv (v :: v :: st) μ F) : Z g d N M n cl sl pc lv (v :: st) μ F := fun p e s m args below meth c R H locs ls C Rl S L => lv_dup2_2 C.1 C.2.1 hd ((tr_cat g v).trans hc) (k p e s m args below meth c R H locs ls C Rl S L)
theorem z_goto {off : Int} (tgt : Nat) (hd : decode (mB M) pc = .ok (.goto off, 3)) (ht : (pc : Int) + off = (tgt : Int)) (k : Z g d N M n cl sl tgt lv st μ F) : Z g d N M n cl sl pc lv st μ F := fun p e s m args below meth c R H locs ls C Rl S L => lv_goto C.1 C.2.1 hd ht (k p e s m args below meth c R H locs ls C Rl S L)
theorem z_if_eq {x : Int32} {off : Int} (tgt : Nat) (hd : decode (mB M) pc = .ok (.ifCond .eq off, 3)) (ht : (pc : Int) + off = (tgt : Int)) (kt : x = 0 → Z g d N M n cl sl tgt lv st μ F) (kf : ¬ (x = 0) → Z g d N M n cl sl (pc + 3) lv st μ F) : Z g d N M n cl sl pc lv (.int x :: st) μ F := fun p e s m args below meth c R H locs ls C Rl S L => lv_if_eq C.1 C.2.1 hd ht (fun h => kt h p e s m args below meth c R H locs ls C Rl S L) (fun h => kf h p e s m args below meth c R H locs ls C Rl S L)
theorem z_icmp_eq {x y : Int32} {off : Int} (tgt : Nat) (hd : decode (mB M) pc = .ok (.if_icmp .eq off, 3)) (ht : (pc : Int) + off = (tgt : Int)) (kt : x = y → Z g d N M n cl sl tgt lv st μ F) (kf : ¬ (x = y) → Z g d N M n cl sl (pc + 3) lv st μ F) : Z g d N M n cl sl pc lv (.int y :: .int x :: st) μ F := fun p e s m args below meth c R H locs ls C Rl S L => lv_icmp_eq C.1 C.2.1 hd ht (fun h => kt h p e s m args below meth c R H locs ls C Rl S L) (fun h => kf h p e s m args below meth c R H locs ls C Rl S L)
theorem z_if_ne {x : Int32} {off : Int} (tgt : Nat) (hd : decode (mB M) pc = .ok (.ifCond .ne off, 3)) (ht : (pc : Int) + off = (tgt : Int)) (kt : ¬ x = 0 → Z g d N M n cl sl tgt lv st μ F) (kf : x = 0 → Z g d N M n cl sl (pc + 3) lv st μ F) : Z g d N M n cl sl pc lv (.int x :: st) μ F := fun p e s m args below meth c R H locs ls C Rl S L => lv_if_ne C.1 C.2.1 hd ht (fun h => kt h p e s m args below meth c R H locs ls C Rl S L) (fun h => kf h p e s m args below meth c R H locs ls C Rl S L)
theorem z_icmp_ne {x y : Int32} {off : Int} (tgt : Nat) (hd : decode (mB M) pc = .ok (.if_icmp .ne off, 3)) (ht : (pc : Int) + off = (tgt : Int)) (kt : ¬ x = y → Z g d N M n cl sl tgt lv st μ F) (kf : x = y → Z g d N M n cl sl (pc + 3) lv st μ F) : Z g d N M n cl sl pc lv (.int y :: .int x :: st) μ F := fun p e s m args below meth c R H locs ls C Rl S L => lv_icmp_ne C.1 C.2.1 hd ht (fun h => kt h p e s m args below meth c R H locs ls C Rl S L) (fun h => kf h p e s m args below meth c R H locs ls C Rl S L)
theorem z_if_lt {x : Int32} {off : Int} (tgt : Nat) (hd : decode (mB M) pc = .ok (.ifCond .lt off, 3)) (ht : (pc : Int) + off = (tgt : Int)) (kt : x < 0 → Z g d N M n cl sl tgt lv st μ F) (kf : ¬ (x < 0) → Z g d N M n cl sl (pc + 3) lv st μ F) : Z g d N M n cl sl pc lv (.int x :: st) μ F := fun p e s m args below meth c R H locs ls C Rl S L => lv_if_lt C.1 C.2.1 hd ht (fun h => kt h p e s m args below meth c R H locs ls C Rl S L) (fun h => kf h p e s m args below meth c R H locs ls C Rl S L)
theorem z_icmp_lt {x y : Int32} {off : Int} (tgt : Nat) (hd : decode (mB M) pc = .ok (.if_icmp .lt off, 3)) (ht : (pc : Int) + off = (tgt : Int)) (kt : x < y → Z g d N M n cl sl tgt lv st μ F) (kf : ¬ (x < y) → Z g d N M n cl sl (pc + 3) lv st μ F) : Z g d N M n cl sl pc lv (.int y :: .int x :: st) μ F := fun p e s m args below meth c R H locs ls C Rl S L => lv_icmp_lt C.1 C.2.1 hd ht (fun h => kt h p e s m args below meth c R H locs ls C Rl S L) (fun h => kf h p e s m args below meth c R H locs ls C Rl S L)
theorem z_if_ge {x : Int32} {off : Int} (tgt : Nat) (hd : decode (mB M) pc = .ok (.ifCond .ge off, 3)) (ht : (pc : Int) + off = (tgt : Int)) (kt : 0 ≤ x → Z g d N M n cl sl tgt lv st μ F) (kf : ¬ (0 ≤ x) → Z g d N M n cl sl (pc + 3) lv st μ F) : Z g d N M n cl sl pc lv (.int x :: st) μ F := fun p e s m args below meth c R H locs ls C Rl S L => lv_if_ge C.1 C.2.1 hd ht (fun h => kt h p e s m args below meth c R H locs ls C Rl S L) (fun h => kf h p e s m args below meth c R H locs ls C Rl S L)
theorem z_icmp_ge {x y : Int32} {off : Int} (tgt : Nat) (hd : decode (mB M) pc = .ok (.if_icmp .ge off, 3)) (ht : (pc : Int) + off = (tgt : Int)) (kt : y ≤ x → Z g d N M n cl sl tgt lv st μ F) (kf : ¬ (y ≤ x) → Z g d N M n cl sl (pc + 3) lv st μ F) : Z g d N M n cl sl pc lv (.int y :: .int x :: st) μ F := fun p e s m args below meth c R H locs ls C Rl S L => lv_icmp_ge C.1 C.2.1 hd ht (fun h => kt h p e s m args below meth c R H locs ls C Rl S L) (fun h => kf h p e s m args below meth c R H locs ls C Rl S L)
theorem z_if_gt {x : Int32} {off : Int} (tgt : Nat) (hd : decode (mB M) pc = .ok (.ifCond .gt off, 3)) (ht : (pc : Int) + off = (tgt : Int)) (kt : 0 < x → Z g d N M n cl sl tgt lv st μ F) (kf : ¬ (0 < x) → Z g d N M n cl sl (pc + 3) lv st μ F) : Z g d N M n cl sl pc lv (.int x :: st) μ F := fun p e s m args below meth c R H locs ls C Rl S L => lv_if_gt C.1 C.2.1 hd ht (fun h => kt h p e s m args below meth c R H locs ls C Rl S L) (fun h => kf h p e s m args below meth c R H locs ls C Rl S L)
theorem z_icmp_gt {x y : Int32} {off : Int} (tgt : Nat) (hd : decode (mB M) pc = .ok (.if_icmp .gt off, 3)) (ht : (pc : Int) + off = (tgt : Int)) (kt : y < x → Z g d N M n cl sl tgt lv st μ F) (kf : ¬ (y < x) → Z g d N M n cl sl (pc + 3) lv st μ F) : Z g d N M n cl sl pc lv (.int y :: .int x :: st) μ F := fun p e s m args below meth c R H locs ls C Rl S L => lv_icmp_gt C.1 C.2.1 hd ht (fun h => kt h p e s m args below meth c R H locs ls C Rl S L) (fun h => kf h p e s m args below meth c R H locs ls C Rl S L)
theorem z_if_le {x : Int32} {off : Int} (tgt : Nat) (hd : decode (mB M) pc = .ok (.ifCond .le off, 3)) (ht : (pc : Int) + off = (tgt : Int)) (kt : x ≤ 0 → Z g d N M n cl sl tgt lv st μ F) (kf : ¬ (x ≤ 0) → Z g d N M n cl sl (pc + 3) lv st μ F) : Z g d N M n cl sl pc lv (.int x :: st) μ F := fun p e s m args below meth c R H locs ls C Rl S L => lv_if_le C.1 C.2.1 hd ht (fun h => kt h p e s m args below meth c R H locs ls C Rl S L) (fun h => kf h p e s m args below meth c R H locs ls C Rl S L)
theorem z_icmp_le {x y : Int32} {off : Int} (tgt : Nat) (hd : decode (mB M) pc = .ok (.if_icmp .le off, 3)) (ht : (pc : Int) + off = (tgt : Int)) (kt : x ≤ y → Z g d N M n cl sl tgt lv st μ F) (kf : ¬ (x ≤ y) → Z g d N M n cl sl (pc + 3) lv st μ F) : Z g d N M n cl sl pc lv (.int y :: .int x :: st) μ F := fun p e s m args below meth c R H locs ls C Rl S L => lv_icmp_le C.1 C.2.1 hd ht (fun h => kt h p e s m args below meth c R H locs ls C Rl S L) (fun h => kf h p e s m args below meth c R H locs ls C Rl S L)
theorem z_tableOut {dflt lo hi : Int} {offs : Array Int} {len : Nat} {x : Int32} (tgt : Nat) (hd : decode (mB M) pc = .ok (.tableswitch dflt lo hi offs, len)) (h : x.toInt < lo ∨ hi < x.toInt) (ht : (pc : Int) + dflt = (tgt : Int)) (k : Z g d N M n cl sl tgt lv st μ F) : Z g d N M n cl sl pc lv (.int x :: st) μ F := fun p e s m args below meth c R H locs ls C Rl S L => lv_tableOut C.1 C.2.1 hd h ht (k p e s m args below meth c R H locs ls C Rl S L)
theorem z_tableIn {dflt lo hi : Int} {offs : Array Int} {len : Nat} {x : Int32} {off : Int} (tgt : Nat) (hd : decode (mB M) pc = .ok (.tableswitch dflt lo hi offs, len)) (h1 : ¬ x.toInt < lo) (h2 : ¬ hi < x.toInt) (ho : offs[(x.toInt - lo).toNat]? = some off) (ht : (pc : Int) + off = (tgt : Int)) (k : Z g d N M n cl sl tgt lv st μ F) : Z g d N M n cl sl pc lv (.int x :: st) μ F := fun p e s m args below meth c R H locs ls C Rl S L => lv_tableIn C.1 C.2.1 hd h1 h2 ho ht (k p e s m args below meth c R H locs ls C Rl S L)
theorem z_lookup {dflt : Int} {ps : Array (Int × Int)} {len : Nat} {x : Int32} {off : Int} (tgt : Nat) (hd : decode (mB M) pc = .ok (.lookupswitch dflt ps, len)) (hp : (ps.toList.zip (ps.toList.drop 1)).all (fun (a, next) => a.1 < next.1) = true) (ho : Op.lookupswitch.offset ps.toList dflt x.toInt = off) (ht : (pc : Int) + off = (tgt : Int)) (k : Z g d N M n cl sl tgt lv st μ F) : Z g d N M n cl sl pc lv (.int x :: st) μ F := fun p e s m args below meth c R H locs ls C Rl S L => lv_lookup C.1 C.2.1 hd hp ho ht (k p e s m args below meth c R H locs ls C Rl S L)
theorem z_lv (ks : List Nat) (h : lv_pick lv ks = lv2) (k : Z g d N M n cl sl pc lv2 st μ F) : Z g d N M n cl sl pc lv st μ F := fun p e s m args below meth c R H locs ls C Rl S L => k p e s m args below meth c R H locs ls C Rl S (lv_sub L ks (by rw [← h]; simp only [lv_pick, zl, List.map_filterMap, List.getElem?_map]))
end ZS
end
section
/-! The rows of the layer that read and write the cells; calls, ends, the entry. -/
/-- a class of the world, with what the tables say of its fields -/
def zcl (ci : Nat) (C : String) (T : u_T) (N : Nat) (ty0 : Nat → FieldType) : Prop := vwCl[ci]? = some (C, T, N) ∧ zn ci = N ∧ ci < 11 ∧ (∀ w ∈ u_ws C T N, w ∈ zTb) ∧ (∀ k, k < N → parseFieldDescriptor (T k).2.2.1 = some (ty0 k)) ∧ ∀ a, a < N → ∀ b, b < N → a ≠ b → (T a).2.1 ≠ (T b).2.1
/-- a field's place in a class's own pool: class, place, what it holds, type, whether final -/
def zfl (own : String) (idx ci j ty : Nat) (fty : FieldType) (fin : Bool) : Prop := ∃ (C : String) (T : u_T) (N : Nat) (ty0 : Nat → FieldType), zcl ci C T N ty0 ∧ j < N ∧ Cond.fieldLink own idx (T j).1 (T j).2.1 (T j).2.2.1 ∈ zTb ∧ zt ci j = ty ∧ parseFieldDescriptor (T j).2.2.1 = some fty ∧ (T j).2.2.2 = fin ∧ (T j).1 = C
section ZM
variable {g : GG} {d : Nat} {N : Nat × Nat} {M : MM} {n cl sl pc : Nat} {lv lv2 : List (Nat × Value)} {st : List Value} {μ : Mm} {F : FF} {q ci j idx : Nat} {fty : FieldType} {fin : Bool}
theorem z_getI (hd : decode (mB M) pc = .ok (.getfield idx, 3)) (hq : zk n q (ci, 0)) (hl : zfl (mO M) idx ci j 0 fty fin) (k : Z g d N M n cl sl (pc + 3) lv (.int (μ.1 q j) :: st) μ F) : Z g d N M n cl sl pc lv (.ref q :: st) μ F := by
  intro p e s m args below meth c R H locs ls C Rl S L
  obtain ⟨CC, T, NN, ty0, ⟨h1, h2, h3, h4, h5, h6⟩, hj, hw, ht, hp, hf, -⟩ := hl
  have he := zW_get g μ hq.1
  rw [zE_o μ hq h3] at he
  refine va_get C.1 C.2.1 C.2.2.2.2.2.1 h4 C.2.2.2.2.1 Rl.1 Rl.2.1 q he h1 j hj (C.2.2.2.2.2.1 _ hw) (fun x h => h) (zf_get g μ q ci (by rw [h2]; exact hj)) hd ?_
  rw [ht]
  exact (k p e s m args below meth c R H locs ls C Rl S L)
theorem z_getL (hd : decode (mB M) pc = .ok (.getfield idx, 3)) (hq : zk n q (ci, 0)) (hl : zfl (mO M) idx ci j 1 fty fin) (k : Z g d N M n cl sl (pc + 3) lv (.long (μ.2.1 q j) :: st) μ F) : Z g d N M n cl sl pc lv (.ref q :: st) μ F := by
  intro p e s m args below meth c R H locs ls C Rl S L
  obtain ⟨CC, T, NN, ty0, ⟨h1, h2, h3, h4, h5, h6⟩, hj, hw, ht, hp, hf, -⟩ := hl
  have he := zW_get g μ hq.1
  rw [zE_o μ hq h3] at he
  refine va_get C.1 C.2.1 C.2.2.2.2.2.1 h4 C.2.2.2.2.1 Rl.1 Rl.2.1 q he h1 j hj (C.2.2.2.2.2.1 _ hw) (fun x h => h) (zf_get g μ q ci (by rw [h2]; exact hj)) hd ?_
  rw [ht]
  exact (k p e s m args below meth c R H locs ls C Rl S L)
theorem z_getR {r : Nat} (hd : decode (mB M) pc = .ok (.getfield idx, 3)) (hq : zk n q (ci, 0)) (hl : zfl (mO M) idx ci j 2 fty fin) (hr : μ.2.2 q j = some r) (k : Z g d N M n cl sl (pc + 3) lv (.ref r :: st) μ F) : Z g d N M n cl sl pc lv (.ref q :: st) μ F := by
  intro p e s m args below meth c R H locs ls C Rl S L
  obtain ⟨CC, T, NN, ty0, ⟨h1, h2, h3, h4, h5, h6⟩, hj, hw, ht, hp, hf, -⟩ := hl
  have he := zW_get g μ hq.1
  rw [zE_o μ hq h3] at he
  refine va_get C.1 C.2.1 C.2.2.2.2.2.1 h4 C.2.2.2.2.1 Rl.1 Rl.2.1 q he h1 j hj (C.2.2.2.2.2.1 _ hw) (fun x h => h) (zf_get g μ q ci (by rw [h2]; exact hj)) hd ?_
  rw [ht]
  show W p g.1 e R s m args below meth c H locs cl sl (F below args s) (F0 m (pc + 3) ls (va_rf ((μ.2.2 q j).map (gA g)) :: zv g st))
  rw [hr]
  exact (k p e s m args below meth c R H locs ls C Rl S L)
theorem z_putI {x : Int32} (hd : decode (mB M) pc = .ok (.putfield idx, 3)) (hq : zk n q (ci, 0)) (hl : zfl (mO M) idx ci j 0 fty false) (hn : narrow fty (.int x) = .int x ∧ fits fty (.int x) = true) (k : Z g d N M n cl sl (pc + 3) lv st (zsi μ q j x) F) : Z g d N M n cl sl pc lv (.int x :: .ref q :: st) μ F := by
  intro p e s m args below meth c R H locs ls C Rl S L
  obtain ⟨CC, T, NN, ty0, ⟨h1, h2, h3, h4, h5, h6⟩, hj, hw, ht, hp, hf, -⟩ := hl
  have he := zW_get g μ hq.1
  rw [zE_o μ hq h3] at he
  have hj2 : j < zn ci := by rw [h2]; exact hj
  refine va_put C.1 C.2.1 C.2.2.2.2.2.1 h4 ty0 h5 h6 C.2.2.2.2.1 Rl.1 Rl.2.1 Rl.2.2 S q he h1 j hj (C.2.2.2.2.2.1 _ hw) (fun x h => h) hf (v := .int x) hp hn.1 hn.2 (by rw [zf_len]; exact hj2) hd (fun H1 locs1 hP hD hS => ?_)
  refine k p e s m args below meth c R H1 locs1 ls C (zR_set Rl.1 hq.1 ?_ ?NE hP hD) hS L
  · rw [zE_o _ hq h3]
    refine congrArg (fun f => Sum.inr (ci, f)) (zf_set ?_ ?_ hj2).symm
    · rw [ht]; simp [zV, zsi, zsl, zsr, va_up, upd, vp_updL, va_rf, tr]
    · intro i hi
      unfold zV
      split <;> simp [zsi, zsl, zsr, va_up, upd, vp_updL, hi]
  case NE => first | exact zsi_ne | exact zsl_ne | exact zsr_ne
theorem z_putL {x : Int64} (hd : decode (mB M) pc = .ok (.putfield idx, 3)) (hq : zk n q (ci, 0)) (hl : zfl (mO M) idx ci j 1 fty false) (hn : narrow fty (.long x) = .long x ∧ fits fty (.long x) = true) (k : Z g d N M n cl sl (pc + 3) lv st (zsl μ q j x) F) : Z g d N M n cl sl pc lv (.long x :: .ref q :: st) μ F := by
  intro p e s m args below meth c R H locs ls C Rl S L
  obtain ⟨CC, T, NN, ty0, ⟨h1, h2, h3, h4, h5, h6⟩, hj, hw, ht, hp, hf, -⟩ := hl
  have he := zW_get g μ hq.1
  rw [zE_o μ hq h3] at he
  have hj2 : j < zn ci := by rw [h2]; exact hj
  refine va_put C.1 C.2.1 C.2.2.2.2.2.1 h4 ty0 h5 h6 C.2.2.2.2.1 Rl.1 Rl.2.1 Rl.2.2 S q he h1 j hj (C.2.2.2.2.2.1 _ hw) (fun x h => h) hf (v := .long x) hp hn.1 hn.2 (by rw [zf_len]; exact hj2) hd (fun H1 locs1 hP hD hS => ?_)
  refine k p e s m args below meth c R H1 locs1 ls C (zR_set Rl.1 hq.1 ?_ ?NE hP hD) hS L
  · rw [zE_o _ hq h3]
    refine congrArg (fun f => Sum.inr (ci, f)) (zf_set ?_ ?_ hj2).symm
    · rw [ht]; simp [zV, zsi, zsl, zsr, va_up, upd, vp_updL, va_rf, tr]
    · intro i hi
      unfold zV
      split <;> simp [zsi, zsl, zsr, va_up, upd, vp_updL, hi]
  case NE => first | exact zsi_ne | exact zsl_ne | exact zsr_ne
theorem z_putR {x : Nat} (hd : decode (mB M) pc = .ok (.putfield idx, 3)) (hq : zk n q (ci, 0)) (hl : zfl (mO M) idx ci j 2 fty false) (hn : ∀ a, narrow fty (.ref a) = .ref a ∧ fits fty (.ref a) = true) (k : Z g d N M n cl sl (pc + 3) lv st (zsr μ q j (some x)) F) : Z g d N M n cl sl pc lv (.ref x :: .ref q :: st) μ F := by
  intro p e s m args below meth c R H locs ls C Rl S L
  obtain ⟨CC, T, NN, ty0, ⟨h1, h2, h3, h4, h5, h6⟩, hj, hw, ht, hp, hf, -⟩ := hl
  have he := zW_get g μ hq.1
  rw [zE_o μ hq h3] at he
  have hj2 : j < zn ci := by rw [h2]; exact hj
  refine va_put C.1 C.2.1 C.2.2.2.2.2.1 h4 ty0 h5 h6 C.2.2.2.2.1 Rl.1 Rl.2.1 Rl.2.2 S q he h1 j hj (C.2.2.2.2.2.1 _ hw) (fun x h => h) hf (v := .ref (gA g x)) hp (hn _).1 (hn _).2 (by rw [zf_len]; exact hj2) hd (fun H1 locs1 hP hD hS => ?_)
  refine k p e s m args below meth c R H1 locs1 ls C (zR_set Rl.1 hq.1 ?_ ?NE hP hD) hS L
  · rw [zE_o _ hq h3]
    refine congrArg (fun f => Sum.inr (ci, f)) (zf_set ?_ ?_ hj2).symm
    · rw [ht]; simp [zV, zsi, zsl, zsr, va_up, upd, vp_updL, va_rf, tr]
    · intro i hi
      unfold zV
      split <;> simp [zsi, zsl, zsr, va_up, upd, vp_updL, hi]
  case NE => first | exact zsi_ne | exact zsl_ne | exact zsr_ne
theorem z_iald {i : Int32} {L0 : Nat} (hd : decode (mB M) pc = .ok (.iaload, 1)) (hq : zk n q (20, L0)) (hi : vp_in i L0) (k : Z g d N M n cl sl (pc + 1) lv (.int (μ.1 q i.toNatClampNeg) :: st) μ F) : Z g d N M n cl sl pc lv (.int i :: .ref q :: st) μ F := by
  intro p e s m args below meth c R H locs ls C Rl S L
  have he := zW_get g μ hq.1
  rw [zE_i μ hq] at he
  exact va_iald C.1 C.2.1 Rl.1 Rl.2.1 q 0 he rfl hi hd (k p e s m args below meth c R H locs ls C Rl S L)
theorem z_lald {i : Int32} {L0 : Nat} (hd : decode (mB M) pc = .ok (.laload, 1)) (hq : zk n q (21, L0)) (hi : vp_in i L0) (k : Z g d N M n cl sl (pc + 1) lv (.long (μ.2.1 q i.toNatClampNeg) :: st) μ F) : Z g d N M n cl sl pc lv (.int i :: .ref q :: st) μ F := by
  intro p e s m args below meth c R H locs ls C Rl S L
  have he := zW_get g μ hq.1
  rw [zE_l μ hq] at he
  exact va_lald C.1 C.2.1 Rl.1 Rl.2.1 q 1 he rfl hi hd (k p e s m args below meth c R H locs ls C Rl S L)
theorem z_zald {i : Int32} {L0 : Nat} (hd : decode (mB M) pc = .ok (.baload, 1)) (hq : zk n q (22, L0)) (hi : vp_in i L0) (k : Z g d N M n cl sl (pc + 1) lv (.int (μ.1 q i.toNatClampNeg) :: st) μ F) : Z g d N M n cl sl pc lv (.int i :: .ref q :: st) μ F := by
  intro p e s m args below meth c R H locs ls C Rl S L
  have he := zW_get g μ hq.1
  rw [zE_z μ hq] at he
  exact va_zald C.1 C.2.1 Rl.1 Rl.2.1 q 2 he rfl hi hd (k p e s m args below meth c R H locs ls C Rl S L)
theorem z_aaldP {i : Int32} {L0 r : Nat} (hd : decode (mB M) pc = .ok (.aaload, 1)) (hq : zk n q (23, L0)) (hi : vp_in i L0) (hr : μ.2.2 q i.toNatClampNeg = some r) (k : Z g d N M n cl sl (pc + 1) lv (.ref r :: st) μ F) : Z g d N M n cl sl pc lv (.int i :: .ref q :: st) μ F := by
  intro p e s m args below meth c R H locs ls C Rl S L
  have he := zW_get g μ hq.1
  rw [zE_p μ hq] at he
  refine va_aldq C.1 C.2.1 Rl.1 Rl.2.1 q 3 he rfl hi hd ?_
  show W p g.1 e R s m args below meth c H locs cl sl (F below args s) (F0 m (pc + 1) ls (va_rf ((μ.2.2 q i.toNatClampNeg).map (gA g)) :: zv g st))
  rw [hr]
  exact (k p e s m args below meth c R H locs ls C Rl S L)
theorem z_aaldT {i : Int32} {L0 r : Nat} (hd : decode (mB M) pc = .ok (.aaload, 1)) (hq : zk n q (24, L0)) (hi : vp_in i L0) (hr : μ.2.2 q i.toNatClampNeg = some r) (k : Z g d N M n cl sl (pc + 1) lv (.ref r :: st) μ F) : Z g d N M n cl sl pc lv (.int i :: .ref q :: st) μ F := by
  intro p e s m args below meth c R H locs ls C Rl S L
  have he := zW_get g μ hq.1
  rw [zE_t μ hq] at he
  refine va_aldq C.1 C.2.1 Rl.1 Rl.2.1 q 4 he rfl hi hd ?_
  show W p g.1 e R s m args below meth c H locs cl sl (F below args s) (F0 m (pc + 1) ls (va_rf ((μ.2.2 q i.toNatClampNeg).map (gA g)) :: zv g st))
  rw [hr]
  exact (k p e s m args below meth c R H locs ls C Rl S L)
theorem z_iast {i : Int32} {x : Int32} {L0 : Nat} (hd : decode (mB M) pc = .ok (.iastore, 1)) (hq : zk n q (20, L0)) (hi : vp_in i L0) (k : Z g d N M n cl sl (pc + 1) lv st (zsi μ q i.toNatClampNeg x) F) : Z g d N M n cl sl pc lv (.int x :: .int i :: .ref q :: st) μ F := by
  intro p e s m args below meth c R H locs ls C Rl S L
  have he := zW_get g μ hq.1
  rw [zE_i μ hq] at he
  refine va_iast C.1 C.2.1 Rl.1 Rl.2.1 Rl.2.2 S q 0 he rfl hi hd (fun H1 locs1 hP hD hS => ?_)
  refine k p e s m args below meth c R H1 locs1 ls C (zR_set Rl.1 hq.1 ?_ ?NE hP hD) hS L
  · rw [zE_i _ hq]; simp [zsi, zsl, zsr, va_up]
  case NE => first | exact zsi_ne | exact zsl_ne | exact zsr_ne
theorem z_last {i : Int32} {x : Int64} {L0 : Nat} (hd : decode (mB M) pc = .ok (.lastore, 1)) (hq : zk n q (21, L0)) (hi : vp_in i L0) (k : Z g d N M n cl sl (pc + 1) lv st (zsl μ q i.toNatClampNeg x) F) : Z g d N M n cl sl pc lv (.long x :: .int i :: .ref q :: st) μ F := by
  intro p e s m args below meth c R H locs ls C Rl S L
  have he := zW_get g μ hq.1
  rw [zE_l μ hq] at he
  refine va_last C.1 C.2.1 Rl.1 Rl.2.1 Rl.2.2 S q 1 he rfl hi hd (fun H1 locs1 hP hD hS => ?_)
  refine k p e s m args below meth c R H1 locs1 ls C (zR_set Rl.1 hq.1 ?_ ?NE hP hD) hS L
  · rw [zE_l _ hq]; simp [zsi, zsl, zsr, va_up]
  case NE => first | exact zsi_ne | exact zsl_ne | exact zsr_ne
theorem z_zast {i : Int32} {x : Int32} {L0 : Nat} (hd : decode (mB M) pc = .ok (.bastore, 1)) (hq : zk n q (22, L0)) (hi : vp_in i L0) (k : Z g d N M n cl sl (pc + 1) lv st (zsi μ q i.toNatClampNeg (vp_nar .boolean x)) F) : Z g d N M n cl sl pc lv (.int x :: .int i :: .ref q :: st) μ F := by
  intro p e s m args below meth c R H locs ls C Rl S L
  have he := zW_get g μ hq.1
  rw [zE_z μ hq] at he
  refine va_zast C.1 C.2.1 Rl.1 Rl.2.1 Rl.2.2 S q 2 he rfl hi hd (fun H1 locs1 hP hD hS => ?_)
  refine k p e s m args below meth c R H1 locs1 ls C (zR_set Rl.1 hq.1 ?_ ?NE hP hD) hS L
  · rw [zE_z _ hq]; simp [zsi, zsl, zsr, va_up]
  case NE => first | exact zsi_ne | exact zsl_ne | exact zsr_ne
theorem z_alen {L0 : Nat} {v : Int32} (hd : decode (mB M) pc = .ok (.arraylength, 1)) (hq : zk n q (20, L0)) (hv : Int32.ofNat L0 = v) (k : Z g d N M n cl sl (pc + 1) lv (.int v :: st) μ F) : Z g d N M n cl sl pc lv (.ref q :: st) μ F := by
  intro p e s m args below meth c R H locs ls C Rl S L
  have he := zW_get g μ hq.1
  rw [zE_i μ hq] at he
  exact va_alen C.1 C.2.1 Rl.1 Rl.2.1 q 0 he rfl hv hd (k p e s m args below meth c R H locs ls C Rl S L)
theorem z_threes (hd : decode (mB M) pc = .ok (.getstatic idx, 3)) (hw : Cond.fieldLinkNest (mO M) idx RX11 "THREES" "[I" "FuseMinutes" = zNf) (k : Z g d N M n cl sl (pc + 3) lv (.ref 1000 :: st) μ F) : Z g d N M n cl sl pc lv st μ F := fun p e s m args below meth c R H locs ls C Rl S L => va_getsN C.1 C.2.1 C.2.2.2.2.2.2.2.2.1.1 S C.2.2.2.2.1 (va_Nw.use rfl (by rw [hw]; exact C.2.2.2.2.2.2.2.2.1.2.2.2.2.2)) (fun _ h => h) hd (k p e s m args below meth c R H locs ls C Rl S L)
theorem z_thald {i : Int32} (hd : decode (mB M) pc = .ok (.iaload, 1)) (hi : vp_in i 4) (k : Z g d N M n cl sl (pc + 1) lv (.int (zth i.toNatClampNeg) :: st) μ F) : Z g d N M n cl sl pc lv (.int i :: .ref 1000 :: st) μ F := fun p e s m args below meth c R H locs ls C Rl S L => va_ti C.1 C.2.1 C.2.2.2.2.2.2.2.2.1.2.1 S hi rfl hd (k p e s m args below meth c R H locs ls C Rl S L)
theorem zX_lt {U : State} {H : Heap} (h : zX g U H) : gA g 1001 < H.size := by
  obtain ⟨-, -, ⟨scr, h1, -⟩, -, -⟩ := h
  exact (Array.getElem?_eq_some_iff.mp h1).1
theorem z_sald {i : Int32} (hd : decode (mB M) pc = .ok (.iaload, 1)) (hi : vp_in i (gN g)) (k : Z g d N M n cl sl (pc + 1) lv (.int (gX g i.toNatClampNeg) :: st) μ F) : Z g d N M n cl sl pc lv (.int i :: .ref 1001 :: st) μ F := fun p e s m args below meth c R H locs ls C Rl S L => va_sld C.1 C.2.1 C.2.2.2.2.2.2.2.2.1.2.2.1 (zX_lt C.2.2.2.2.2.2.2.2.1) C.2.2.2.2.2.2.2.2.1.2.2.2.1 S hi hd (k p e s m args below meth c R H locs ls C Rl S L)
theorem z_slen (hd : decode (mB M) pc = .ok (.arraylength, 1)) (k : Z g d N M n cl sl (pc + 1) lv (.int (Int32.ofNat (gN g)) :: st) μ F) : Z g d N M n cl sl pc lv (.ref 1001 :: st) μ F := fun p e s m args below meth c R H locs ls C Rl S L => va_slen C.1 C.2.1 C.2.2.2.2.2.2.2.2.1.2.2.1 (zX_lt C.2.2.2.2.2.2.2.2.1) C.2.2.2.2.2.2.2.2.1.2.2.2.1 S hd (k p e s m args below meth c R H locs ls C Rl S L)
end ZM
end
section
/-! Contracts over the layer: entry, ends, calls. -/
def zws (Y : MM) : List Cond := .code Y.1 (mB Y) (mL Y) (mR Y) ::  zTb
/-- the method's own code stands among the words -/
def zin (Y : MM) : Prop := Cond.code Y.1 (mB Y) (mL Y) (mR Y) ∈ zTb ∧ plainName Y.1.cls = true
theorem zGood {Y : MM} (h : zin Y) : GoodIn zTb (zws Y) := by
  intro w hw
  have hm : w ∈ zTb := by
    rcases List.mem_cons.mp hw with e | e
    · rw [e]; exact h.1
    · exact e
  exact ⟨hm, good_of_word (List.mem_filter.mp hm).2⟩
def zrm (d : Nat) : Room := { frames := d, cells := 0, slots := 0, locals := 64 * d }
abbrev zPc (g : GG) (As : List Value) (μ : Mm) : Array Value → State → Prop := fun a U => a = (zv g As).toArray ∧ zR g 333 μ U U.heap ∧ zX g U U.heap
abbrev zQ (g : GG) (r : Option Value × Mm) : Array Value → State → Outcome → State → Prop := fun _ st oc t => oc = .returned (r.1.map (tr g)) ∧ zR g 333 r.2 t t.heap ∧ va_F (zA g) st t
def zF (g : GG) (r : Option Value × Mm) : FF := fun below args s => MQ below (zQ g r) args s 0 0 (zA g)
/-- the contract: from this memory, with these arguments, the method returns just r -/
def Ct (g : GG) (d : Nat) (Y : MM) (As : List Value) (μ : Mm) (r : Option Value × Mm) : Prop := Met g.1 Y.1 (zws Y) (zrm d) (zPc g As μ) (zQ g r) 0 0 (zA g)
theorem zNw_warm {s U : State} (hW : s.WarmedH U.vm) (h : zNw s) : zNw U := ⟨fun q hq => va_Nw.warmM hW (h.1 q hq), va_Nw.warmF hW h.2⟩
theorem zNw_same {u U : State} (hv : u.vm = U.vm) (h : zNw u) : zNw U := ⟨fun q hq => va_Nw.same rfl hv (h.1 q hq), va_Nw.same rfl hv h.2⟩
theorem zX_moved {g : GG} {u U : State} {H : Heap} (hvm : u.vm.Alike U.vm) (hN : zNw U) (h : zX g u H) : zX g U H := ⟨h.1.moved hvm, h.2.1.moved hvm, h.2.2.1.moved hvm, h.2.2.2.1, hN⟩
theorem zX_kept {g : GG} {U : State} {H H1 : Heap} (h : zX g U H) (hq : ∀ a : Nat, a < H.size → ¬ zA g a → H1[a]? = H[a]?) : zX g U H1 := ⟨h.1.kept hq, h.2.1.kept hq, h.2.2.1.kept (hq _ (zX_lt h) h.2.2.2.1), h.2.2.2⟩
theorem zl_args (g : GG) : ∀ (As : List Value) (i : Nat), lv_args i (zv g As) = zl g (lv_args i As)
  | [], _ => rfl
  | v :: vs, i => by
    show (i, tr g v) :: lv_args (if (tr g v).category = 2 then i + 2 else i + 1) (zv g vs) = _
    rw [tr_cat, zl_args g vs]
    rfl
theorem zl_sl (g : GG) : ∀ (As : List Value), (lg_sl (zv g As)).length = (lg_sl As).length
  | [] => rfl
  | v :: vs => by
    have ih := zl_sl g vs
    simp only [lg_sl, zv, List.map_cons, List.flatMap_cons, List.length_append, tr_cat] at ih ⊢
    rw [ih]
    split <;> rfl
theorem z_entry {g : GG} {d : Nat} {Y : MM} {As : List Value} {μ : Mm} {r : Option Value × Mm} (hY : zin Y) (hA : (lg_sl As).length ≤ mL Y) (h : Z g d (0, 0) Y 333 0 0 0 (lv_args 0 As) [] μ (zF g r)) : Ct g d Y As μ r := by
  refine Met.ofW (cc := mB Y) (maxL := mL Y) (ret := mR Y) hY.2 rfl ?_
  intro p e s m args below meth c s₁ B hml hv
  obtain ⟨rfl, hR, hX⟩ := hv
  have hts0 := atoms_spec (ws := zws Y) B.pre
  have hl := lv_entry (zv g As) (n := mL Y) (by rw [zl_sl]; exact hA)
  rw [zl_args] at hl
  rw [lg_entry_eq]
  exact h p e s m _ below meth c (zrm d) s.heap [] _ ⟨B.exec, B.bytes, B.returns, hml, findClass_of_methodNamed B.named, fun w hw => hts0 w (List.mem_cons_of_mem _ hw), B.notSynchronized, (name_of_methodNamed B.named B.method).1, hX, Nat.le_refl _, Nat.le_refl _, Nat.le_refl _, Nat.le_refl _⟩ hR va_S.rf hl
theorem z_iret {g : GG} {d : Nat} {M : MM} {pc : Nat} {lv : List (Nat × Value)} {μ : Mm} {x : Int32} (hd : decode (mB M) pc = .ok (.ireturn, 1)) (hr : mR M = some .int) : Z g d (0, 0) M 333 0 0 pc lv [.int x] μ (zF g (some (.int x), μ)) := by
  intro p e s m args below meth c R H locs ls C Rl S L
  refine W.iret C.1 C.2.1 (C.2.2.1.trans hr)  (fun t ht hW => ⟨rfl, ⟨va_K.moved hW.alike Rl.1, by rw [ht]; exact Rl.2.1, Rl.2.2⟩, S.F ht⟩) S.2.2 hd C.2.2.2.2.2.2.1
theorem z_zret {g : GG} {d : Nat} {M : MM} {pc : Nat} {lv : List (Nat × Value)} {μ : Mm} {x : Int32} (hd : decode (mB M) pc = .ok (.ireturn, 1)) {ty : FieldType} (hr : mR M = some ty) (hn : narrow ty (.int x) = .int x) : Z g d (0, 0) M 333 0 0 pc lv [.int x] μ (zF g (some (.int x), μ)) := by
  intro p e s m args below meth c R H locs ls C Rl S L
  refine W.zret C.1 C.2.1 (C.2.2.1.trans hr) hn (fun t ht hW => ⟨rfl, ⟨va_K.moved hW.alike Rl.1, by rw [ht]; exact Rl.2.1, Rl.2.2⟩, S.F ht⟩) S.2.2 hd C.2.2.2.2.2.2.1
theorem z_lret {g : GG} {d : Nat} {M : MM} {pc : Nat} {lv : List (Nat × Value)} {μ : Mm} {x : Int64} (hd : decode (mB M) pc = .ok (.lreturn, 1)) (hr : mR M = some .long) : Z g d (0, 0) M 333 0 0 pc lv [.long x] μ (zF g (some (.long x), μ)) := by
  intro p e s m args below meth c R H locs ls C Rl S L
  refine W.lret C.1 C.2.1 (C.2.2.1.trans hr)  (fun t ht hW => ⟨rfl, ⟨va_K.moved hW.alike Rl.1, by rw [ht]; exact Rl.2.1, Rl.2.2⟩, S.F ht⟩) S.2.2 hd C.2.2.2.2.2.2.1
theorem z_vret {g : GG} {d : Nat} {M : MM} {pc : Nat} {lv : List (Nat × Value)} {μ : Mm}  (hd : decode (mB M) pc = .ok (.return_, 1)) (hr : mR M = none) : Z g d (0, 0) M 333 0 0 pc lv [] μ (zF g (none, μ)) := by
  intro p e s m args below meth c R H locs ls C Rl S L
  refine W.vret C.1 C.2.1 (C.2.2.1.trans hr)  (fun t ht hW => ⟨rfl, ⟨va_K.moved hW.alike Rl.1, by rw [ht]; exact Rl.2.1, Rl.2.2⟩, S.F ht⟩) S.2.2 hd C.2.2.2.2.2.2.1
/-- words of a call: the link, the parameters' number -/
abbrev zcy (Y : MM) (np : Nat) : Prop := zin Y ∧ mL Y ≤ 40 ∧ Cond.initialized Y.1.cls ∈ zTb ∧ Y.1.cls ≠ "java/lang/invoke/MethodHandle" ∧ Y.1.cls ≠ "java/lang/invoke/VarHandle" ∧ (parseMethodDescriptor Y.1.desc).map (fun d => d.parameters.length) = some np
/-- an own instance method, of a class of the world -/
def zcV (Y : MM) (ci np : Nat) : Prop := zcy Y np ∧ ci < 11 ∧ (∃ r, vwCl[ci]? = some r ∧ r.1 = Y.1.cls) ∧ Cond.instanceMethod Y.1 ∈ zTb ∧ Cond.selects Y.1.cls Y.1 Y.1 ∈ zTb
def zcS (Y : MM) (np : Nat) : Prop := zcy Y np ∧ Cond.static Y.1 ∈ zTb
theorem z_back {g : GG} {s t st0 : State} {H : Heap} {locs L : List Loc} (hS : va_S (zA g) s.heap H locs) (h0 : st0.heap = H) (hF : va_F (zA g) st0 t) (hL : ∀ q ∈ L, zA g q.base) : va_S (zA g) s.heap t.heap (locs ++ L) := by
  obtain ⟨a1, a2, a3⟩ := hS
  obtain ⟨b1, b2⟩ := hF
  rw [h0] at b1 b2
  refine ⟨Nat.le_trans a1 b1, fun q h1 h2 => (b2 q (Nat.lt_of_lt_of_le h1 a1) h2).trans (a2 q h1 h2), fun x hx => ?_⟩
  rcases List.mem_append.mp hx with h | h
  · exact a3 x h
  · exact hL x h
theorem zPc_blind {g : GG} {As : List Value} {μ : Mm} : FrameBlind (zPc g As μ) := fun a U g' mk h => ⟨h.1, ⟨va_K.moved (u := U) (U := U.calling g' mk a) (Vm.Alike.refl U.vm) h.2.1.1, h.2.1.2⟩, zX_moved (u := U) (U := U.calling g' mk a) (Vm.Alike.refl U.vm) (zNw_same rfl h.2.2.2.2.2.2) h.2.2⟩
theorem zPc_at {g : GG} {As : List Value} {μ : Mm} {s : State} {H : Heap} {locs : List Loc} (hR : zR g 333 μ s H) (hX : zX g s s.heap) (hS : va_S (zA g) s.heap H locs) : ∀ U : State, U.heap = H → s.WarmedH U.vm → zPc g As μ (zv g As).toArray U := fun U hU hW => ⟨rfl, ⟨va_K.moved hW.alike hR.1, by rw [hU]; exact hR.2.1, hR.2.2⟩, by rw [hU]; exact zX_kept (zX_moved hW.alike (zNw_warm hW hX.2.2.2.2) hX) hS.2.1⟩
theorem zcat {g : GG} {st : List Value} : ((zv g st).map fun v => v.category) = st.map fun v => v.category := by simp [zv, tr_cat]
section ZCALL
variable {g : GG} {d d2 : Nat} {M Y : MM} {pc idx ci np q : Nat} {lv : List (Nat × Value)} {st As : List Value} {μ : Mm} {F : FF} {r : Option Value × Mm}
theorem z_goes {p : Program} {e : Env} {s : State} {m : MethodId} {args : Array Value} {below : List Frame} {meth : Method} {c : Code} {R : Room} {H : Heap} {locs : List Loc} {ls : Array Slot} {a : Array Value} {stk : List Value}
    (hr : va_Run p g.1 e R s m args below meth c H locs 0 0 0 0 (F0 m pc ls stk) (zv g st) (zQ g r a) (zA g)) (C : zC g d (0, 0) M p s m args meth c R) (Rl : zR g 333 μ s H) (S : va_S (zA g) s.heap H locs) (L : lv_has ls (mL M) (zl g lv)) (k : Z g d (0, 0) M 333 0 0 (pc + 3) lv (r.1.toList ++ st) r.2 F) :
    W p g.1 e R s m args below meth c H locs 0 0 (F below args s) (F0 m pc ls stk) := by
  intro T hT X
  obtain ⟨v, st₀, t, T', L', h0, X', hL', e1, e2, ⟨hv, hR, hF⟩, hst⟩ := hr T hT X
  have hv2 : v = r.1.map (tr g) := by cases hv; rfl
  obtain ⟨t2, a1, b1⟩ := k p e s m args below meth c R t.heap (locs ++ L') ls C ⟨Rl.1, hR.2⟩ (z_back S h0 hF hL') L T' e1 X'
  refine ⟨t2, hst t2 ?_, b1⟩
  have e3 : v.toList ++ zv g st = zv g (r.1.toList ++ st) := by
    rw [hv2]; cases r.1 <;> rfl
  rw [e3]
  exact a1
theorem z_callV (hd : decode (mB M) pc = .ok (.invokevirtual idx, 3)) (hw : Cond.methodLink (mO M) idx Y.1 ∈ zTb) (hY : zcV Y ci np) (hq : zk 333 q (ci, 0)) (hC : Ct g d2 Y (.ref q :: As) μ r) (hdd : d2 + 1 ≤ d) (hn : As.length = np) {stk : List Value} (hs : As.reverse ++ .ref q :: st = stk) (hW : (st.map fun v => v.category).sum ≤ 8) (k : Z g d (0, 0) M 333 0 0 (pc + 3) lv (r.1.toList ++ st) r.2 F) : Z g d (0, 0) M 333 0 0 pc lv stk μ F := by
  intro p e s m args below meth c R H locs ls C Rl S L
  obtain ⟨⟨hin, hml, hini, hy1, hy2, hnp⟩, hci, ⟨rr, hr1, hr2⟩, hins, hsel⟩ := hY
  have hts := C.2.2.2.2.2.1
  have hfr := C.2.2.2.2.2.2.2.2.2
  have he := zW_get g μ hq.1
  rw [zE_o μ hq hci] at he
  have cw : CallW R s args (mO M) Y.1.cls idx Y.1 (mB Y) (mL Y) (mR Y) (zws Y) (zrm d2) 0 0 np := ⟨callB_of np hts (zGood hin) rfl rfl rfl (hts _ hini) (hts _ hw) ⟨hy1, hy2, hnp⟩ ⟨Nat.le_trans hdd hfr.1, by show 8 + (mL Y + 11) + 64 * d2 ≤ R.locals; have := hfr.2.1; omega⟩, hts _ hins, hts _ hsel⟩
  have hrec := va_recv Rl.1 Rl.2.1 hr1 he
  rw [hr2] at hrec
  have hrun := va_runV (e := e) (below := below) (meth := meth) (locs := locs) (cells := 0) (slots := 0) (As := zv g As) (rest := zv g st) (g := F0 m pc ls (zv g stk)) (nL := mL M) ⟨C.1, C.2.1, C.2.2.2.1, C.2.2.2.2.1, hts⟩ hC cw ⟨zPc_blind, hrec, zPc_at (As := .ref q :: As) Rl C.2.2.2.2.2.2.2.2.1 S⟩ rfl (by simp [zv, hn]) L.1 (by rw [← hs]; simp [zv, tr]) (lv_room (by rw [zcat]; exact hW)) hd ⟨Nat.zero_le _, Nat.zero_le _⟩
  exact z_goes hrun C Rl S L k
theorem z_callS (hd : decode (mB M) pc = .ok (.invokestatic idx, 3)) (hw : Cond.methodLink (mO M) idx Y.1 ∈ zTb) (hY : zcS Y np) (hC : Ct g d2 Y As μ r) (hdd : d2 + 1 ≤ d) (hn : As.length = np) {stk : List Value} (hs : As.reverse ++ st = stk) (hW : (st.map fun v => v.category).sum ≤ 8) (k : Z g d (0, 0) M 333 0 0 (pc + 3) lv (r.1.toList ++ st) r.2 F) : Z g d (0, 0) M 333 0 0 pc lv stk μ F := by
  intro p e s m args below meth c R H locs ls C Rl S L
  obtain ⟨⟨hin, hml, hini, hy1, hy2, hnp⟩, hst⟩ := hY
  have hts := C.2.2.2.2.2.1
  have hfr := C.2.2.2.2.2.2.2.2.2
  have cw : CallB R s args (mO M) idx Y.1 (mB Y) (mL Y) (mR Y) (zws Y) (zrm d2) 0 0 np ∧ (Cond.static Y.1).before args s = true := ⟨callB_of np hts (zGood hin) rfl rfl rfl (hts _ hini) (hts _ hw) ⟨hy1, hy2, hnp⟩ ⟨Nat.le_trans hdd hfr.1, by show 8 + (mL Y + 11) + 64 * d2 ≤ R.locals; have := hfr.2.1; omega⟩, hts _ hst⟩
  have hrun := va_runS (e := e) (below := below) (meth := meth) (locs := locs) (cells := 0) (slots := 0) (As := zv g As) (rest := zv g st) (g := F0 m pc ls (zv g stk)) (nL := mL M) ⟨C.1, C.2.1, C.2.2.2.1, C.2.2.2.2.1, hts⟩ hC cw ⟨zPc_blind, zPc_at Rl C.2.2.2.2.2.2.2.2.1 S⟩ rfl (by simp [zv, hn]) L.1 (by rw [← hs]; simp [zv, tr]) (lv_room (by rw [zcat]; exact hW)) hd ⟨Nat.zero_le _, Nat.zero_le _⟩
  exact z_goes hrun C Rl S L k
/-- a private static method of another class of the nest -/
theorem z_callSN (hd : decode (mB M) pc = .ok (.invokestatic idx, 3)) (hw : (mO M, idx, Y.1) ∈ zNm) (hY : zcS Y np) (hC : Ct g d2 Y As μ r) (hdd : d2 + 1 ≤ d) (hn : As.length = np) {stk : List Value} (hs : As.reverse ++ st = stk) (hW : (st.map fun v => v.category).sum ≤ 8) (k : Z g d (0, 0) M 333 0 0 (pc + 3) lv (r.1.toList ++ st) r.2 F) : Z g d (0, 0) M 333 0 0 pc lv stk μ F := by
  intro p e s m args below meth c R H locs ls C Rl S L
  obtain ⟨⟨hin, hml, hini, hy1, hy2, hnp⟩, hst⟩ := hY
  have hts := C.2.2.2.2.2.1
  have hfr := C.2.2.2.2.2.2.2.2.2
  have cw : va_CN R s args (mO M) idx Y.1 "FuseMinutes" (mB Y) (mL Y) (mR Y) (zws Y) (zrm d2) 0 0 np ∧ (Cond.static Y.1).before args s = true ∧ True := ⟨va_cnB np hts (zGood hin) rfl rfl rfl (C.2.2.2.2.2.2.2.2.1.2.2.2.2.1 _ hw) (hts _ hini) ⟨hy1, hy2, hnp⟩ ⟨Nat.le_trans hdd hfr.1, by show 8 + (mL Y + 11) + 64 * d2 ≤ R.locals; have := hfr.2.1; omega⟩, hts _ hst, trivial⟩
  have hrun := va_runSN (e := e) (below := below) (meth := meth) (locs := locs) (cells := 0) (slots := 0) (As := zv g As) (rest := zv g st) (g := F0 m pc ls (zv g stk)) (nL := mL M) ⟨C.1, C.2.1, C.2.2.2.1, C.2.2.2.2.1, hts⟩ hC cw ⟨zPc_blind, zPc_at Rl C.2.2.2.2.2.2.2.2.1 S⟩ rfl (by simp [zv, hn]) L.1 (by rw [← hs]; simp [zv, tr]) (lv_room (by rw [zcat]; exact hW)) hd ⟨Nat.zero_le _, Nat.zero_le _⟩
  exact z_goes hrun C Rl S L k
/-- int rows copied -/
def zcp (μ : Mm) (a sp b dp k : Nat) : Mm := (va_up μ.1 b (va_cpy (μ.1 a) (μ.1 b) sp dp k), μ.2)
theorem z_copy {a b L0 L1 : Nat} {sp dp k : Int32} (hd : decode (mB M) pc = .ok (.invokestatic idx, 3)) (hw : Cond.methodLink (mO M) idx arraycopyName ∈ zTb ∧ Cond.native arraycopyName ∈ zTb ∧ Cond.static arraycopyName ∈ zTb ∧ Cond.initialized "java/lang/System" ∈ zTb) (ha : zk 333 a (20, L0)) (hb : zk 333 b (20, L1)) (h : ¬ sp < 0 ∧ ¬ dp < 0 ∧ ¬ k < 0 ∧ sp.toNatClampNeg + k.toNatClampNeg ≤ L0 ∧ dp.toNatClampNeg + k.toNatClampNeg ≤ L1) (hdd : 1 ≤ d) (hW : (st.map fun v => v.category).sum ≤ 8)
    (kk : Z g d (0, 0) M 333 0 0 (pc + 3) lv st (zcp μ a sp.toNatClampNeg b dp.toNatClampNeg k.toNatClampNeg) F) : Z g d (0, 0) M 333 0 0 pc lv (.int k :: .int dp :: .ref b :: .int sp :: .ref a :: st) μ F := by
  intro p e s m args below meth c R H locs ls C Rl S L
  have hts := C.2.2.2.2.2.1
  have hfr := C.2.2.2.2.2.2.2.2.2
  have hea := zW_get g μ ha.1
  rw [zE_i μ ha] at hea
  have heb := zW_get g μ hb.1
  rw [zE_i μ hb] at heb
  have hcat : ((zv g st).map fun v => v.category) = st.map fun v => v.category := by simp [zv, tr_cat]
  refine va_copyi C.1 C.2.1 (C.2.2.2.1.trans L.1.symm) C.2.2.2.2.1 (hts _ hw.1) (hts _ hw.2.1) (hts _ hw.2.2.1) (hts _ hw.2.2.2) Rl.1 Rl.2.1 Rl.2.2 S a b 0 0 hea heb rfl rfl rfl h.1 h.2.1 h.2.2.1 h.2.2.2.1 h.2.2.2.2 (fun _ _ => rfl) (Nat.le_trans hdd hfr.1) ?_ hd (fun H1 locs1 hP hD hS => ?_)
  · show ((zv g st).map fun v => v.category).sum + _ ≤ _
    rw [hcat]
    have e1 : nativeFrameWords "java/lang/System" "arraycopy" 5 + 11 ≤ 48 := by decide
    have := hfr.2.1
    omega
  · refine kk p e s m args below meth c R H1 locs1 ls C (zR_set Rl.1 hb.1 ?_ ?_ hP hD) hS L
    · rw [zE_i _ hb]; simp [zcp, va_up]
    · exact fun j hj => zE_ne (by simp [zcp, va_up, hj]) rfl rfl
end ZCALL
end
