section
-- ===== PART A: goes FIRST, ahead of the names: the tables' words, and 'selects' of the private methods out of them =====
/-- a private method of a class that the tables say can be made, by its rows of tables_1 -/
def lw_okq (q : MethodName × Nat) : Prop := (q.1.cls ≠ "java/lang/invoke/MethodHandle" ∧ q.1.cls ≠ "java/lang/invoke/VarHandle") ∧ Cond.instantiable q.1.cls q.2 ∈ tables_1 ∧ Cond.privateMethod q.1 ∈ tables_1 ∧ Cond.instanceMethod q.1 ∈ tables_1
theorem lw_p0 : lw_okq (⟨"FuseMinutes$Reader", "next", "()V"⟩, 11) := ⟨⟨by decide +kernel, by decide +kernel⟩, List.mem_of_getElem? (i := 166) (by decide +kernel), List.mem_of_getElem? (i := 411) (by decide +kernel), List.mem_of_getElem? (i := 412) (by decide +kernel)⟩
theorem lw_p1 : lw_okq (⟨"FuseMinutes$Reader", "byteAt", "(I)I"⟩, 11) := ⟨⟨by decide +kernel, by decide +kernel⟩, List.mem_of_getElem? (i := 166) (by decide +kernel), List.mem_of_getElem? (i := 415) (by decide +kernel), List.mem_of_getElem? (i := 416) (by decide +kernel)⟩
theorem lw_p2 : lw_okq (⟨"FuseMinutes$Reader", "nextWord", "()I"⟩, 11) := ⟨⟨by decide +kernel, by decide +kernel⟩, List.mem_of_getElem? (i := 166) (by decide +kernel), List.mem_of_getElem? (i := 422) (by decide +kernel), List.mem_of_getElem? (i := 423) (by decide +kernel)⟩
theorem lw_p3 : lw_okq (⟨"FuseMinutes$Reader", "spells", "(I)Z"⟩, 11) := ⟨⟨by decide +kernel, by decide +kernel⟩, List.mem_of_getElem? (i := 166) (by decide +kernel), List.mem_of_getElem? (i := 475) (by decide +kernel), List.mem_of_getElem? (i := 476) (by decide +kernel)⟩
theorem lw_p4 : lw_okq (⟨"FuseMinutes$Reader", "nextNumber", "()I"⟩, 11) := ⟨⟨by decide +kernel, by decide +kernel⟩, List.mem_of_getElem? (i := 166) (by decide +kernel), List.mem_of_getElem? (i := 482) (by decide +kernel), List.mem_of_getElem? (i := 483) (by decide +kernel)⟩
theorem lw_p5 : lw_okq (⟨"FuseMinutes$Reader", "nextSign", "(I)I"⟩, 11) := ⟨⟨by decide +kernel, by decide +kernel⟩, List.mem_of_getElem? (i := 166) (by decide +kernel), List.mem_of_getElem? (i := 489) (by decide +kernel), List.mem_of_getElem? (i := 490) (by decide +kernel)⟩
theorem lw_p6 : lw_okq (⟨"FuseMinutes$Reader", "readClause", "(I)V"⟩, 11) := ⟨⟨by decide +kernel, by decide +kernel⟩, List.mem_of_getElem? (i := 166) (by decide +kernel), List.mem_of_getElem? (i := 551) (by decide +kernel), List.mem_of_getElem? (i := 552) (by decide +kernel)⟩
theorem lw_p7 : lw_okq (⟨"FuseMinutes$Reader", "fail", "(I)V"⟩, 11) := ⟨⟨by decide +kernel, by decide +kernel⟩, List.mem_of_getElem? (i := 166) (by decide +kernel), List.mem_of_getElem? (i := 555) (by decide +kernel), List.mem_of_getElem? (i := 556) (by decide +kernel)⟩
theorem lw_p8 : lw_okq (⟨"FuseMinutes$Reader", "readLaw", "(I)V"⟩, 11) := ⟨⟨by decide +kernel, by decide +kernel⟩, List.mem_of_getElem? (i := 166) (by decide +kernel), List.mem_of_getElem? (i := 563) (by decide +kernel), List.mem_of_getElem? (i := 564) (by decide +kernel)⟩
theorem lw_p9 : lw_okq (⟨"FuseMinutes$Reader", "readSum", "()V"⟩, 11) := ⟨⟨by decide +kernel, by decide +kernel⟩, List.mem_of_getElem? (i := 166) (by decide +kernel), List.mem_of_getElem? (i := 567) (by decide +kernel), List.mem_of_getElem? (i := 568) (by decide +kernel)⟩
theorem lw_p10 : lw_okq (⟨"FuseMinutes$Reader", "readProduct", "()V"⟩, 11) := ⟨⟨by decide +kernel, by decide +kernel⟩, List.mem_of_getElem? (i := 166) (by decide +kernel), List.mem_of_getElem? (i := 571) (by decide +kernel), List.mem_of_getElem? (i := 572) (by decide +kernel)⟩
theorem lw_p11 : lw_okq (⟨"FuseMinutes$Reader", "readOne", "()V"⟩, 11) := ⟨⟨by decide +kernel, by decide +kernel⟩, List.mem_of_getElem? (i := 166) (by decide +kernel), List.mem_of_getElem? (i := 575) (by decide +kernel), List.mem_of_getElem? (i := 576) (by decide +kernel)⟩
theorem lw_p12 : lw_okq (⟨"FuseMinutes$Reader", "readOpening", "(I)V"⟩, 11) := ⟨⟨by decide +kernel, by decide +kernel⟩, List.mem_of_getElem? (i := 166) (by decide +kernel), List.mem_of_getElem? (i := 586) (by decide +kernel), List.mem_of_getElem? (i := 587) (by decide +kernel)⟩
theorem lw_p13 : lw_okq (⟨"FuseMinutes$Reader", "opens", "()Z"⟩, 11) := ⟨⟨by decide +kernel, by decide +kernel⟩, List.mem_of_getElem? (i := 166) (by decide +kernel), List.mem_of_getElem? (i := 590) (by decide +kernel), List.mem_of_getElem? (i := 591) (by decide +kernel)⟩
theorem lw_p14 : lw_okq (⟨"FuseMinutes$Reader", "expect", "(I)V"⟩, 11) := ⟨⟨by decide +kernel, by decide +kernel⟩, List.mem_of_getElem? (i := 166) (by decide +kernel), List.mem_of_getElem? (i := 594) (by decide +kernel), List.mem_of_getElem? (i := 595) (by decide +kernel)⟩
theorem lw_p15 : lw_okq (⟨"FuseMinutes$Reader", "readIf", "()V"⟩, 11) := ⟨⟨by decide +kernel, by decide +kernel⟩, List.mem_of_getElem? (i := 166) (by decide +kernel), List.mem_of_getElem? (i := 598) (by decide +kernel), List.mem_of_getElem? (i := 599) (by decide +kernel)⟩
def lw_privs_1 : List (MethodName × Nat) := [(⟨"FuseMinutes$Reader", "next", "()V"⟩, 11), (⟨"FuseMinutes$Reader", "byteAt", "(I)I"⟩, 11), (⟨"FuseMinutes$Reader", "nextWord", "()I"⟩, 11), (⟨"FuseMinutes$Reader", "spells", "(I)Z"⟩, 11), (⟨"FuseMinutes$Reader", "nextNumber", "()I"⟩, 11), (⟨"FuseMinutes$Reader", "nextSign", "(I)I"⟩, 11), (⟨"FuseMinutes$Reader", "readClause", "(I)V"⟩, 11), (⟨"FuseMinutes$Reader", "fail", "(I)V"⟩, 11), (⟨"FuseMinutes$Reader", "readLaw", "(I)V"⟩, 11), (⟨"FuseMinutes$Reader", "readSum", "()V"⟩, 11), (⟨"FuseMinutes$Reader", "readProduct", "()V"⟩, 11), (⟨"FuseMinutes$Reader", "readOne", "()V"⟩, 11), (⟨"FuseMinutes$Reader", "readOpening", "(I)V"⟩, 11), (⟨"FuseMinutes$Reader", "opens", "()Z"⟩, 11), (⟨"FuseMinutes$Reader", "expect", "(I)V"⟩, 11), (⟨"FuseMinutes$Reader", "readIf", "()V"⟩, 11)]
theorem lw_r1 : ∀ q ∈ lw_privs_1, lw_okq q := List.forall_mem_cons.mpr ⟨lw_p0, List.forall_mem_cons.mpr ⟨lw_p1, List.forall_mem_cons.mpr ⟨lw_p2, List.forall_mem_cons.mpr ⟨lw_p3, List.forall_mem_cons.mpr ⟨lw_p4, List.forall_mem_cons.mpr ⟨lw_p5, List.forall_mem_cons.mpr ⟨lw_p6, List.forall_mem_cons.mpr ⟨lw_p7, List.forall_mem_cons.mpr ⟨lw_p8, List.forall_mem_cons.mpr ⟨lw_p9, List.forall_mem_cons.mpr ⟨lw_p10, List.forall_mem_cons.mpr ⟨lw_p11, List.forall_mem_cons.mpr ⟨lw_p12, List.forall_mem_cons.mpr ⟨lw_p13, List.forall_mem_cons.mpr ⟨lw_p14, List.forall_mem_cons.mpr ⟨lw_p15, fun _ h => absurd h List.not_mem_nil⟩⟩⟩⟩⟩⟩⟩⟩⟩⟩⟩⟩⟩⟩⟩⟩
theorem lw_p16 : lw_okq (⟨"FuseMinutes$Reader", "readEither", "()V"⟩, 11) := ⟨⟨by decide +kernel, by decide +kernel⟩, List.mem_of_getElem? (i := 166) (by decide +kernel), List.mem_of_getElem? (i := 602) (by decide +kernel), List.mem_of_getElem? (i := 603) (by decide +kernel)⟩
theorem lw_p17 : lw_okq (⟨"FuseMinutes$Reader", "readBoth", "()V"⟩, 11) := ⟨⟨by decide +kernel, by decide +kernel⟩, List.mem_of_getElem? (i := 166) (by decide +kernel), List.mem_of_getElem? (i := 606) (by decide +kernel), List.mem_of_getElem? (i := 607) (by decide +kernel)⟩
theorem lw_p18 : lw_okq (⟨"FuseMinutes$Reader", "readAsk", "()V"⟩, 11) := ⟨⟨by decide +kernel, by decide +kernel⟩, List.mem_of_getElem? (i := 166) (by decide +kernel), List.mem_of_getElem? (i := 610) (by decide +kernel), List.mem_of_getElem? (i := 611) (by decide +kernel)⟩
theorem lw_p19 : lw_okq (⟨"FuseMinutes$Reader", "readAct", "(I)V"⟩, 11) := ⟨⟨by decide +kernel, by decide +kernel⟩, List.mem_of_getElem? (i := 166) (by decide +kernel), List.mem_of_getElem? (i := 621) (by decide +kernel), List.mem_of_getElem? (i := 622) (by decide +kernel)⟩
theorem lw_p20 : lw_okq (⟨"FuseMinutes$Reader", "readNumber", "(II)I"⟩, 11) := ⟨⟨by decide +kernel, by decide +kernel⟩, List.mem_of_getElem? (i := 166) (by decide +kernel), List.mem_of_getElem? (i := 625) (by decide +kernel), List.mem_of_getElem? (i := 626) (by decide +kernel)⟩
theorem lw_p21 : lw_okq (⟨"FuseMinutes", "hasText", "(I)Z"⟩, 7) := ⟨⟨by decide +kernel, by decide +kernel⟩, List.mem_of_getElem? (i := 24) (by decide +kernel), List.mem_of_getElem? (i := 639) (by decide +kernel), List.mem_of_getElem? (i := 640) (by decide +kernel)⟩
theorem lw_p22 : lw_okq (⟨"FuseMinutes", "canLight", "(II)Z"⟩, 7) := ⟨⟨by decide +kernel, by decide +kernel⟩, List.mem_of_getElem? (i := 24) (by decide +kernel), List.mem_of_getElem? (i := 647) (by decide +kernel), List.mem_of_getElem? (i := 648) (by decide +kernel)⟩
theorem lw_p23 : lw_okq (⟨"FuseMinutes", "lightsSays", "(II)I"⟩, 7) := ⟨⟨by decide +kernel, by decide +kernel⟩, List.mem_of_getElem? (i := 24) (by decide +kernel), List.mem_of_getElem? (i := 660) (by decide +kernel), List.mem_of_getElem? (i := 661) (by decide +kernel)⟩
theorem lw_p24 : lw_okq (⟨"FuseMinutes$Sums", "leaf", "(I)J"⟩, 4) := ⟨⟨by decide +kernel, by decide +kernel⟩, List.mem_of_getElem? (i := 211) (by decide +kernel), List.mem_of_getElem? (i := 672) (by decide +kernel), List.mem_of_getElem? (i := 673) (by decide +kernel)⟩
theorem lw_p25 : lw_okq (⟨"FuseMinutes$Sums", "result", "(IJJJ)J"⟩, 4) := ⟨⟨by decide +kernel, by decide +kernel⟩, List.mem_of_getElem? (i := 211) (by decide +kernel), List.mem_of_getElem? (i := 680) (by decide +kernel), List.mem_of_getElem? (i := 681) (by decide +kernel)⟩
theorem lw_p26 : lw_okq (⟨"FuseMinutes$Sums", "isOut", "(J)Z"⟩, 4) := ⟨⟨by decide +kernel, by decide +kernel⟩, List.mem_of_getElem? (i := 211) (by decide +kernel), List.mem_of_getElem? (i := 687) (by decide +kernel), List.mem_of_getElem? (i := 688) (by decide +kernel)⟩
theorem lw_p27 : lw_okq (⟨"FuseMinutes", "kindle", "(II)I"⟩, 7) := ⟨⟨by decide +kernel, by decide +kernel⟩, List.mem_of_getElem? (i := 24) (by decide +kernel), List.mem_of_getElem? (i := 719) (by decide +kernel), List.mem_of_getElem? (i := 720) (by decide +kernel)⟩
theorem lw_p28 : lw_okq (⟨"FuseMinutes", "failsSays", "(II)I"⟩, 7) := ⟨⟨by decide +kernel, by decide +kernel⟩, List.mem_of_getElem? (i := 24) (by decide +kernel), List.mem_of_getElem? (i := 723) (by decide +kernel), List.mem_of_getElem? (i := 724) (by decide +kernel)⟩
theorem lw_p29 : lw_okq (⟨"FuseMinutes$Pit", "writeDown", "(III)V"⟩, 8) := ⟨⟨by decide +kernel, by decide +kernel⟩, List.mem_of_getElem? (i := 38) (by decide +kernel), List.mem_of_getElem? (i := 735) (by decide +kernel), List.mem_of_getElem? (i := 736) (by decide +kernel)⟩
theorem lw_p30 : lw_okq (⟨"FuseMinutes", "canRenew", "(I)Z"⟩, 7) := ⟨⟨by decide +kernel, by decide +kernel⟩, List.mem_of_getElem? (i := 24) (by decide +kernel), List.mem_of_getElem? (i := 751) (by decide +kernel), List.mem_of_getElem? (i := 752) (by decide +kernel)⟩
theorem lw_p31 : lw_okq (⟨"FuseMinutes$Pit", "passWithin", "(I)I"⟩, 8) := ⟨⟨by decide +kernel, by decide +kernel⟩, List.mem_of_getElem? (i := 38) (by decide +kernel), List.mem_of_getElem? (i := 784) (by decide +kernel), List.mem_of_getElem? (i := 785) (by decide +kernel)⟩
def lw_privs_2 : List (MethodName × Nat) := [(⟨"FuseMinutes$Reader", "readEither", "()V"⟩, 11), (⟨"FuseMinutes$Reader", "readBoth", "()V"⟩, 11), (⟨"FuseMinutes$Reader", "readAsk", "()V"⟩, 11), (⟨"FuseMinutes$Reader", "readAct", "(I)V"⟩, 11), (⟨"FuseMinutes$Reader", "readNumber", "(II)I"⟩, 11), (⟨"FuseMinutes", "hasText", "(I)Z"⟩, 7), (⟨"FuseMinutes", "canLight", "(II)Z"⟩, 7), (⟨"FuseMinutes", "lightsSays", "(II)I"⟩, 7), (⟨"FuseMinutes$Sums", "leaf", "(I)J"⟩, 4), (⟨"FuseMinutes$Sums", "result", "(IJJJ)J"⟩, 4), (⟨"FuseMinutes$Sums", "isOut", "(J)Z"⟩, 4), (⟨"FuseMinutes", "kindle", "(II)I"⟩, 7), (⟨"FuseMinutes", "failsSays", "(II)I"⟩, 7), (⟨"FuseMinutes$Pit", "writeDown", "(III)V"⟩, 8), (⟨"FuseMinutes", "canRenew", "(I)Z"⟩, 7), (⟨"FuseMinutes$Pit", "passWithin", "(I)I"⟩, 8)]
theorem lw_r2 : ∀ q ∈ lw_privs_2, lw_okq q := List.forall_mem_cons.mpr ⟨lw_p16, List.forall_mem_cons.mpr ⟨lw_p17, List.forall_mem_cons.mpr ⟨lw_p18, List.forall_mem_cons.mpr ⟨lw_p19, List.forall_mem_cons.mpr ⟨lw_p20, List.forall_mem_cons.mpr ⟨lw_p21, List.forall_mem_cons.mpr ⟨lw_p22, List.forall_mem_cons.mpr ⟨lw_p23, List.forall_mem_cons.mpr ⟨lw_p24, List.forall_mem_cons.mpr ⟨lw_p25, List.forall_mem_cons.mpr ⟨lw_p26, List.forall_mem_cons.mpr ⟨lw_p27, List.forall_mem_cons.mpr ⟨lw_p28, List.forall_mem_cons.mpr ⟨lw_p29, List.forall_mem_cons.mpr ⟨lw_p30, List.forall_mem_cons.mpr ⟨lw_p31, fun _ h => absurd h List.not_mem_nil⟩⟩⟩⟩⟩⟩⟩⟩⟩⟩⟩⟩⟩⟩⟩⟩
theorem lw_p32 : lw_okq (⟨"FuseMinutes", "carriedOut", "(III)Z"⟩, 7) := ⟨⟨by decide +kernel, by decide +kernel⟩, List.mem_of_getElem? (i := 24) (by decide +kernel), List.mem_of_getElem? (i := 801) (by decide +kernel), List.mem_of_getElem? (i := 802) (by decide +kernel)⟩
theorem lw_p33 : lw_okq (⟨"FuseMinutes", "minutesPassed", "(I)Z"⟩, 7) := ⟨⟨by decide +kernel, by decide +kernel⟩, List.mem_of_getElem? (i := 24) (by decide +kernel), List.mem_of_getElem? (i := 811) (by decide +kernel), List.mem_of_getElem? (i := 812) (by decide +kernel)⟩
theorem lw_p34 : lw_okq (⟨"FuseMinutes", "shiftBy", "(I)V"⟩, 7) := ⟨⟨by decide +kernel, by decide +kernel⟩, List.mem_of_getElem? (i := 24) (by decide +kernel), List.mem_of_getElem? (i := 820) (by decide +kernel), List.mem_of_getElem? (i := 821) (by decide +kernel)⟩
theorem lw_p35 : lw_okq (⟨"FuseMinutes", "shiftCord", "(III)V"⟩, 7) := ⟨⟨by decide +kernel, by decide +kernel⟩, List.mem_of_getElem? (i := 24) (by decide +kernel), List.mem_of_getElem? (i := 824) (by decide +kernel), List.mem_of_getElem? (i := 825) (by decide +kernel)⟩
theorem lw_p36 : lw_okq (⟨"FuseMinutes", "isSet", "(I)Z"⟩, 7) := ⟨⟨by decide +kernel, by decide +kernel⟩, List.mem_of_getElem? (i := 24) (by decide +kernel), List.mem_of_getElem? (i := 870) (by decide +kernel), List.mem_of_getElem? (i := 871) (by decide +kernel)⟩
theorem lw_p37 : lw_okq (⟨"FuseMinutes", "allCords", "()I"⟩, 7) := ⟨⟨by decide +kernel, by decide +kernel⟩, List.mem_of_getElem? (i := 24) (by decide +kernel), List.mem_of_getElem? (i := 874) (by decide +kernel), List.mem_of_getElem? (i := 875) (by decide +kernel)⟩
theorem lw_p38 : lw_okq (⟨"FuseMinutes$Rows", "learn", "(I)V"⟩, 14) := ⟨⟨by decide +kernel, by decide +kernel⟩, List.mem_of_getElem? (i := 230) (by decide +kernel), List.mem_of_getElem? (i := 882) (by decide +kernel), List.mem_of_getElem? (i := 883) (by decide +kernel)⟩
theorem lw_p39 : lw_okq (⟨"FuseMinutes$Rows", "begin", "(III)V"⟩, 14) := ⟨⟨by decide +kernel, by decide +kernel⟩, List.mem_of_getElem? (i := 230) (by decide +kernel), List.mem_of_getElem? (i := 886) (by decide +kernel), List.mem_of_getElem? (i := 887) (by decide +kernel)⟩
theorem lw_p40 : lw_okq (⟨"FuseMinutes$Rows", "walk", "(I)Z"⟩, 14) := ⟨⟨by decide +kernel, by decide +kernel⟩, List.mem_of_getElem? (i := 230) (by decide +kernel), List.mem_of_getElem? (i := 890) (by decide +kernel), List.mem_of_getElem? (i := 891) (by decide +kernel)⟩
theorem lw_p41 : lw_okq (⟨"FuseMinutes$Rows", "burnOn", "(I)Z"⟩, 14) := ⟨⟨by decide +kernel, by decide +kernel⟩, List.mem_of_getElem? (i := 230) (by decide +kernel), List.mem_of_getElem? (i := 894) (by decide +kernel), List.mem_of_getElem? (i := 895) (by decide +kernel)⟩
theorem lw_p42 : lw_okq (⟨"FuseMinutes$Rows", "arrive", "(I)Z"⟩, 14) := ⟨⟨by decide +kernel, by decide +kernel⟩, List.mem_of_getElem? (i := 230) (by decide +kernel), List.mem_of_getElem? (i := 900) (by decide +kernel), List.mem_of_getElem? (i := 901) (by decide +kernel)⟩
theorem lw_p43 : lw_okq (⟨"FuseMinutes$Rows", "chooseNext", "(I)Z"⟩, 14) := ⟨⟨by decide +kernel, by decide +kernel⟩, List.mem_of_getElem? (i := 230) (by decide +kernel), List.mem_of_getElem? (i := 904) (by decide +kernel), List.mem_of_getElem? (i := 905) (by decide +kernel)⟩
theorem lw_p44 : lw_okq (⟨"FuseMinutes$Rows", "spanInWord", "(III)I"⟩, 14) := ⟨⟨by decide +kernel, by decide +kernel⟩, List.mem_of_getElem? (i := 230) (by decide +kernel), List.mem_of_getElem? (i := 918) (by decide +kernel), List.mem_of_getElem? (i := 919) (by decide +kernel)⟩
theorem lw_p45 : lw_okq (⟨"FuseMinutes$Rows", "marked", "(II)Z"⟩, 14) := ⟨⟨by decide +kernel, by decide +kernel⟩, List.mem_of_getElem? (i := 230) (by decide +kernel), List.mem_of_getElem? (i := 922) (by decide +kernel), List.mem_of_getElem? (i := 923) (by decide +kernel)⟩
theorem lw_p46 : lw_okq (⟨"FuseMinutes$Rows", "nextMarked", "(III)I"⟩, 14) := ⟨⟨by decide +kernel, by decide +kernel⟩, List.mem_of_getElem? (i := 230) (by decide +kernel), List.mem_of_getElem? (i := 977) (by decide +kernel), List.mem_of_getElem? (i := 978) (by decide +kernel)⟩
theorem lw_p47 : lw_okq (⟨"FuseMinutes", "findBundle", "()Z"⟩, 7) := ⟨⟨by decide +kernel, by decide +kernel⟩, List.mem_of_getElem? (i := 24) (by decide +kernel), List.mem_of_getElem? (i := 993) (by decide +kernel), List.mem_of_getElem? (i := 994) (by decide +kernel)⟩
def lw_privs_3 : List (MethodName × Nat) := [(⟨"FuseMinutes", "carriedOut", "(III)Z"⟩, 7), (⟨"FuseMinutes", "minutesPassed", "(I)Z"⟩, 7), (⟨"FuseMinutes", "shiftBy", "(I)V"⟩, 7), (⟨"FuseMinutes", "shiftCord", "(III)V"⟩, 7), (⟨"FuseMinutes", "isSet", "(I)Z"⟩, 7), (⟨"FuseMinutes", "allCords", "()I"⟩, 7), (⟨"FuseMinutes$Rows", "learn", "(I)V"⟩, 14), (⟨"FuseMinutes$Rows", "begin", "(III)V"⟩, 14), (⟨"FuseMinutes$Rows", "walk", "(I)Z"⟩, 14), (⟨"FuseMinutes$Rows", "burnOn", "(I)Z"⟩, 14), (⟨"FuseMinutes$Rows", "arrive", "(I)Z"⟩, 14), (⟨"FuseMinutes$Rows", "chooseNext", "(I)Z"⟩, 14), (⟨"FuseMinutes$Rows", "spanInWord", "(III)I"⟩, 14), (⟨"FuseMinutes$Rows", "marked", "(II)Z"⟩, 14), (⟨"FuseMinutes$Rows", "nextMarked", "(III)I"⟩, 14), (⟨"FuseMinutes", "findBundle", "()Z"⟩, 7)]
theorem lw_r3 : ∀ q ∈ lw_privs_3, lw_okq q := List.forall_mem_cons.mpr ⟨lw_p32, List.forall_mem_cons.mpr ⟨lw_p33, List.forall_mem_cons.mpr ⟨lw_p34, List.forall_mem_cons.mpr ⟨lw_p35, List.forall_mem_cons.mpr ⟨lw_p36, List.forall_mem_cons.mpr ⟨lw_p37, List.forall_mem_cons.mpr ⟨lw_p38, List.forall_mem_cons.mpr ⟨lw_p39, List.forall_mem_cons.mpr ⟨lw_p40, List.forall_mem_cons.mpr ⟨lw_p41, List.forall_mem_cons.mpr ⟨lw_p42, List.forall_mem_cons.mpr ⟨lw_p43, List.forall_mem_cons.mpr ⟨lw_p44, List.forall_mem_cons.mpr ⟨lw_p45, List.forall_mem_cons.mpr ⟨lw_p46, List.forall_mem_cons.mpr ⟨lw_p47, fun _ h => absurd h List.not_mem_nil⟩⟩⟩⟩⟩⟩⟩⟩⟩⟩⟩⟩⟩⟩⟩⟩
theorem lw_p48 : lw_okq (⟨"FuseMinutes", "setsGiving", "(I)I"⟩, 7) := ⟨⟨by decide +kernel, by decide +kernel⟩, List.mem_of_getElem? (i := 24) (by decide +kernel), List.mem_of_getElem? (i := 1003) (by decide +kernel), List.mem_of_getElem? (i := 1004) (by decide +kernel)⟩
theorem lw_p49 : lw_okq (⟨"FuseMinutes$Bundles", "shareOut", "(I)V"⟩, 4) := ⟨⟨by decide +kernel, by decide +kernel⟩, List.mem_of_getElem? (i := 282) (by decide +kernel), List.mem_of_getElem? (i := 1011) (by decide +kernel), List.mem_of_getElem? (i := 1012) (by decide +kernel)⟩
theorem lw_p50 : lw_okq (⟨"FuseMinutes$Bundles", "givesAll", "()Z"⟩, 4) := ⟨⟨by decide +kernel, by decide +kernel⟩, List.mem_of_getElem? (i := 282) (by decide +kernel), List.mem_of_getElem? (i := 1015) (by decide +kernel), List.mem_of_getElem? (i := 1016) (by decide +kernel)⟩
theorem lw_p51 : lw_okq (⟨"FuseMinutes$Bundles", "rank", "(LFuseMinutes$Store;)J"⟩, 4) := ⟨⟨by decide +kernel, by decide +kernel⟩, List.mem_of_getElem? (i := 282) (by decide +kernel), List.mem_of_getElem? (i := 1019) (by decide +kernel), List.mem_of_getElem? (i := 1020) (by decide +kernel)⟩
theorem lw_p52 : lw_okq (⟨"FuseMinutes", "suspectSets", "()I"⟩, 7) := ⟨⟨by decide +kernel, by decide +kernel⟩, List.mem_of_getElem? (i := 24) (by decide +kernel), List.mem_of_getElem? (i := 1071) (by decide +kernel), List.mem_of_getElem? (i := 1072) (by decide +kernel)⟩
theorem lw_p53 : lw_okq (⟨"FuseMinutes", "agreesWithAllSaid", "(I)Z"⟩, 7) := ⟨⟨by decide +kernel, by decide +kernel⟩, List.mem_of_getElem? (i := 24) (by decide +kernel), List.mem_of_getElem? (i := 1123) (by decide +kernel), List.mem_of_getElem? (i := 1124) (by decide +kernel)⟩
theorem lw_p54 : lw_okq (⟨"FuseMinutesModel", "forget", "()V"⟩, 37) := ⟨⟨by decide +kernel, by decide +kernel⟩, List.mem_of_getElem? (i := 1169) (by decide +kernel), List.mem_of_getElem? (i := 1179) (by decide +kernel), List.mem_of_getElem? (i := 1180) (by decide +kernel)⟩
theorem lw_p55 : lw_okq (⟨"FuseMinutesModel", "begin", "(I)V"⟩, 37) := ⟨⟨by decide +kernel, by decide +kernel⟩, List.mem_of_getElem? (i := 1169) (by decide +kernel), List.mem_of_getElem? (i := 1303) (by decide +kernel), List.mem_of_getElem? (i := 1304) (by decide +kernel)⟩
theorem lw_p56 : lw_okq (⟨"FuseMinutesModel", "full", "(I)I"⟩, 37) := ⟨⟨by decide +kernel, by decide +kernel⟩, List.mem_of_getElem? (i := 1169) (by decide +kernel), List.mem_of_getElem? (i := 1307) (by decide +kernel), List.mem_of_getElem? (i := 1308) (by decide +kernel)⟩
theorem lw_p57 : lw_okq (⟨"FuseMinutesModel", "put", "(III)V"⟩, 37) := ⟨⟨by decide +kernel, by decide +kernel⟩, List.mem_of_getElem? (i := 1169) (by decide +kernel), List.mem_of_getElem? (i := 1311) (by decide +kernel), List.mem_of_getElem? (i := 1312) (by decide +kernel)⟩
theorem lw_p58 : lw_okq (⟨"FuseMinutesModel", "isCord", "(I)Z"⟩, 37) := ⟨⟨by decide +kernel, by decide +kernel⟩, List.mem_of_getElem? (i := 1169) (by decide +kernel), List.mem_of_getElem? (i := 1323) (by decide +kernel), List.mem_of_getElem? (i := 1324) (by decide +kernel)⟩
theorem lw_p59 : lw_okq (⟨"FuseMinutesModel", "four", "(I)V"⟩, 37) := ⟨⟨by decide +kernel, by decide +kernel⟩, List.mem_of_getElem? (i := 1169) (by decide +kernel), List.mem_of_getElem? (i := 1331) (by decide +kernel), List.mem_of_getElem? (i := 1332) (by decide +kernel)⟩
theorem lw_p60 : lw_okq (⟨"FuseMinutesModel", "readText", "()I"⟩, 37) := ⟨⟨by decide +kernel, by decide +kernel⟩, List.mem_of_getElem? (i := 1169) (by decide +kernel), List.mem_of_getElem? (i := 1343) (by decide +kernel), List.mem_of_getElem? (i := 1344) (by decide +kernel)⟩
theorem lw_p61 : lw_okq (⟨"FuseMinutesModel", "nextToken", "()V"⟩, 37) := ⟨⟨by decide +kernel, by decide +kernel⟩, List.mem_of_getElem? (i := 1169) (by decide +kernel), List.mem_of_getElem? (i := 1347) (by decide +kernel), List.mem_of_getElem? (i := 1348) (by decide +kernel)⟩
theorem lw_p62 : lw_okq (⟨"FuseMinutesModel", "byteAt", "(I)I"⟩, 37) := ⟨⟨by decide +kernel, by decide +kernel⟩, List.mem_of_getElem? (i := 1169) (by decide +kernel), List.mem_of_getElem? (i := 1351) (by decide +kernel), List.mem_of_getElem? (i := 1352) (by decide +kernel)⟩
theorem lw_p63 : lw_okq (⟨"FuseMinutesModel", "clause", "()I"⟩, 37) := ⟨⟨by decide +kernel, by decide +kernel⟩, List.mem_of_getElem? (i := 1169) (by decide +kernel), List.mem_of_getElem? (i := 1366) (by decide +kernel), List.mem_of_getElem? (i := 1367) (by decide +kernel)⟩
def lw_privs_4 : List (MethodName × Nat) := [(⟨"FuseMinutes", "setsGiving", "(I)I"⟩, 7), (⟨"FuseMinutes$Bundles", "shareOut", "(I)V"⟩, 4), (⟨"FuseMinutes$Bundles", "givesAll", "()Z"⟩, 4), (⟨"FuseMinutes$Bundles", "rank", "(LFuseMinutes$Store;)J"⟩, 4), (⟨"FuseMinutes", "suspectSets", "()I"⟩, 7), (⟨"FuseMinutes", "agreesWithAllSaid", "(I)Z"⟩, 7), (⟨"FuseMinutesModel", "forget", "()V"⟩, 37), (⟨"FuseMinutesModel", "begin", "(I)V"⟩, 37), (⟨"FuseMinutesModel", "full", "(I)I"⟩, 37), (⟨"FuseMinutesModel", "put", "(III)V"⟩, 37), (⟨"FuseMinutesModel", "isCord", "(I)Z"⟩, 37), (⟨"FuseMinutesModel", "four", "(I)V"⟩, 37), (⟨"FuseMinutesModel", "readText", "()I"⟩, 37), (⟨"FuseMinutesModel", "nextToken", "()V"⟩, 37), (⟨"FuseMinutesModel", "byteAt", "(I)I"⟩, 37), (⟨"FuseMinutesModel", "clause", "()I"⟩, 37)]
theorem lw_r4 : ∀ q ∈ lw_privs_4, lw_okq q := List.forall_mem_cons.mpr ⟨lw_p48, List.forall_mem_cons.mpr ⟨lw_p49, List.forall_mem_cons.mpr ⟨lw_p50, List.forall_mem_cons.mpr ⟨lw_p51, List.forall_mem_cons.mpr ⟨lw_p52, List.forall_mem_cons.mpr ⟨lw_p53, List.forall_mem_cons.mpr ⟨lw_p54, List.forall_mem_cons.mpr ⟨lw_p55, List.forall_mem_cons.mpr ⟨lw_p56, List.forall_mem_cons.mpr ⟨lw_p57, List.forall_mem_cons.mpr ⟨lw_p58, List.forall_mem_cons.mpr ⟨lw_p59, List.forall_mem_cons.mpr ⟨lw_p60, List.forall_mem_cons.mpr ⟨lw_p61, List.forall_mem_cons.mpr ⟨lw_p62, List.forall_mem_cons.mpr ⟨lw_p63, fun _ h => absurd h List.not_mem_nil⟩⟩⟩⟩⟩⟩⟩⟩⟩⟩⟩⟩⟩⟩⟩⟩
theorem lw_p64 : lw_okq (⟨"FuseMinutesModel", "sortOf", "()I"⟩, 37) := ⟨⟨by decide +kernel, by decide +kernel⟩, List.mem_of_getElem? (i := 1169) (by decide +kernel), List.mem_of_getElem? (i := 1370) (by decide +kernel), List.mem_of_getElem? (i := 1371) (by decide +kernel)⟩
theorem lw_p65 : lw_okq (⟨"FuseMinutesModel", "isWord", "(J)Z"⟩, 37) := ⟨⟨by decide +kernel, by decide +kernel⟩, List.mem_of_getElem? (i := 1169) (by decide +kernel), List.mem_of_getElem? (i := 1389) (by decide +kernel), List.mem_of_getElem? (i := 1390) (by decide +kernel)⟩
theorem lw_p66 : lw_okq (⟨"FuseMinutesModel", "body", "(II)I"⟩, 37) := ⟨⟨by decide +kernel, by decide +kernel⟩, List.mem_of_getElem? (i := 1169) (by decide +kernel), List.mem_of_getElem? (i := 1396) (by decide +kernel), List.mem_of_getElem? (i := 1397) (by decide +kernel)⟩
theorem lw_p67 : lw_okq (⟨"FuseMinutesModel", "cordClause", "(I)I"⟩, 37) := ⟨⟨by decide +kernel, by decide +kernel⟩, List.mem_of_getElem? (i := 1169) (by decide +kernel), List.mem_of_getElem? (i := 1400) (by decide +kernel), List.mem_of_getElem? (i := 1401) (by decide +kernel)⟩
theorem lw_p68 : lw_okq (⟨"FuseMinutesModel", "figure", "(III)I"⟩, 37) := ⟨⟨by decide +kernel, by decide +kernel⟩, List.mem_of_getElem? (i := 1169) (by decide +kernel), List.mem_of_getElem? (i := 1404) (by decide +kernel), List.mem_of_getElem? (i := 1405) (by decide +kernel)⟩
theorem lw_p69 : lw_okq (⟨"FuseMinutesModel", "lawClause", "(I)I"⟩, 37) := ⟨⟨by decide +kernel, by decide +kernel⟩, List.mem_of_getElem? (i := 1169) (by decide +kernel), List.mem_of_getElem? (i := 1408) (by decide +kernel), List.mem_of_getElem? (i := 1409) (by decide +kernel)⟩
theorem lw_p70 : lw_okq (⟨"FuseMinutesModel", "summed", "()I"⟩, 37) := ⟨⟨by decide +kernel, by decide +kernel⟩, List.mem_of_getElem? (i := 1169) (by decide +kernel), List.mem_of_getElem? (i := 1412) (by decide +kernel), List.mem_of_getElem? (i := 1413) (by decide +kernel)⟩
theorem lw_p71 : lw_okq (⟨"FuseMinutesModel", "behindOne", "()Z"⟩, 37) := ⟨⟨by decide +kernel, by decide +kernel⟩, List.mem_of_getElem? (i := 1169) (by decide +kernel), List.mem_of_getElem? (i := 1416) (by decide +kernel), List.mem_of_getElem? (i := 1417) (by decide +kernel)⟩
theorem lw_p72 : lw_okq (⟨"FuseMinutesModel", "betweenOf", "()I"⟩, 37) := ⟨⟨by decide +kernel, by decide +kernel⟩, List.mem_of_getElem? (i := 1169) (by decide +kernel), List.mem_of_getElem? (i := 1420) (by decide +kernel), List.mem_of_getElem? (i := 1421) (by decide +kernel)⟩
theorem lw_p73 : lw_okq (⟨"FuseMinutesModel", "openNow", "()I"⟩, 37) := ⟨⟨by decide +kernel, by decide +kernel⟩, List.mem_of_getElem? (i := 1169) (by decide +kernel), List.mem_of_getElem? (i := 1424) (by decide +kernel), List.mem_of_getElem? (i := 1425) (by decide +kernel)⟩
theorem lw_p74 : lw_okq (⟨"FuseMinutesModel", "openAt", "()I"⟩, 37) := ⟨⟨by decide +kernel, by decide +kernel⟩, List.mem_of_getElem? (i := 1169) (by decide +kernel), List.mem_of_getElem? (i := 1428) (by decide +kernel), List.mem_of_getElem? (i := 1429) (by decide +kernel)⟩
theorem lw_p75 : lw_okq (⟨"FuseMinutesModel", "isCompared", "()Z"⟩, 37) := ⟨⟨by decide +kernel, by decide +kernel⟩, List.mem_of_getElem? (i := 1169) (by decide +kernel), List.mem_of_getElem? (i := 1432) (by decide +kernel), List.mem_of_getElem? (i := 1433) (by decide +kernel)⟩
theorem lw_p76 : lw_okq (⟨"FuseMinutesModel", "compareOf", "()I"⟩, 37) := ⟨⟨by decide +kernel, by decide +kernel⟩, List.mem_of_getElem? (i := 1169) (by decide +kernel), List.mem_of_getElem? (i := 1439) (by decide +kernel), List.mem_of_getElem? (i := 1440) (by decide +kernel)⟩
theorem lw_p77 : lw_okq (⟨"FuseMinutesModel", "settle", "(I)V"⟩, 37) := ⟨⟨by decide +kernel, by decide +kernel⟩, List.mem_of_getElem? (i := 1169) (by decide +kernel), List.mem_of_getElem? (i := 1443) (by decide +kernel), List.mem_of_getElem? (i := 1444) (by decide +kernel)⟩
theorem lw_p78 : lw_okq (⟨"FuseMinutesModel", "emit", "(II)V"⟩, 37) := ⟨⟨by decide +kernel, by decide +kernel⟩, List.mem_of_getElem? (i := 1169) (by decide +kernel), List.mem_of_getElem? (i := 1447) (by decide +kernel), List.mem_of_getElem? (i := 1448) (by decide +kernel)⟩
theorem lw_p79 : lw_okq (⟨"FuseMinutesModel", "partOf", "(I)I"⟩, 37) := ⟨⟨by decide +kernel, by decide +kernel⟩, List.mem_of_getElem? (i := 1169) (by decide +kernel), List.mem_of_getElem? (i := 1451) (by decide +kernel), List.mem_of_getElem? (i := 1452) (by decide +kernel)⟩
def lw_privs_5 : List (MethodName × Nat) := [(⟨"FuseMinutesModel", "sortOf", "()I"⟩, 37), (⟨"FuseMinutesModel", "isWord", "(J)Z"⟩, 37), (⟨"FuseMinutesModel", "body", "(II)I"⟩, 37), (⟨"FuseMinutesModel", "cordClause", "(I)I"⟩, 37), (⟨"FuseMinutesModel", "figure", "(III)I"⟩, 37), (⟨"FuseMinutesModel", "lawClause", "(I)I"⟩, 37), (⟨"FuseMinutesModel", "summed", "()I"⟩, 37), (⟨"FuseMinutesModel", "behindOne", "()Z"⟩, 37), (⟨"FuseMinutesModel", "betweenOf", "()I"⟩, 37), (⟨"FuseMinutesModel", "openNow", "()I"⟩, 37), (⟨"FuseMinutesModel", "openAt", "()I"⟩, 37), (⟨"FuseMinutesModel", "isCompared", "()Z"⟩, 37), (⟨"FuseMinutesModel", "compareOf", "()I"⟩, 37), (⟨"FuseMinutesModel", "settle", "(I)V"⟩, 37), (⟨"FuseMinutesModel", "emit", "(II)V"⟩, 37), (⟨"FuseMinutesModel", "partOf", "(I)I"⟩, 37)]
theorem lw_r5 : ∀ q ∈ lw_privs_5, lw_okq q := List.forall_mem_cons.mpr ⟨lw_p64, List.forall_mem_cons.mpr ⟨lw_p65, List.forall_mem_cons.mpr ⟨lw_p66, List.forall_mem_cons.mpr ⟨lw_p67, List.forall_mem_cons.mpr ⟨lw_p68, List.forall_mem_cons.mpr ⟨lw_p69, List.forall_mem_cons.mpr ⟨lw_p70, List.forall_mem_cons.mpr ⟨lw_p71, List.forall_mem_cons.mpr ⟨lw_p72, List.forall_mem_cons.mpr ⟨lw_p73, List.forall_mem_cons.mpr ⟨lw_p74, List.forall_mem_cons.mpr ⟨lw_p75, List.forall_mem_cons.mpr ⟨lw_p76, List.forall_mem_cons.mpr ⟨lw_p77, List.forall_mem_cons.mpr ⟨lw_p78, List.forall_mem_cons.mpr ⟨lw_p79, fun _ h => absurd h List.not_mem_nil⟩⟩⟩⟩⟩⟩⟩⟩⟩⟩⟩⟩⟩⟩⟩⟩
theorem lw_p80 : lw_okq (⟨"FuseMinutesModel", "beginOne", "()I"⟩, 37) := ⟨⟨by decide +kernel, by decide +kernel⟩, List.mem_of_getElem? (i := 1169) (by decide +kernel), List.mem_of_getElem? (i := 1455) (by decide +kernel), List.mem_of_getElem? (i := 1456) (by decide +kernel)⟩
theorem lw_p81 : lw_okq (⟨"FuseMinutesModel", "nameOf", "()I"⟩, 37) := ⟨⟨by decide +kernel, by decide +kernel⟩, List.mem_of_getElem? (i := 1169) (by decide +kernel), List.mem_of_getElem? (i := 1459) (by decide +kernel), List.mem_of_getElem? (i := 1460) (by decide +kernel)⟩
theorem lw_p82 : lw_okq (⟨"FuseMinutesModel", "opened", "(I)I"⟩, 37) := ⟨⟨by decide +kernel, by decide +kernel⟩, List.mem_of_getElem? (i := 1169) (by decide +kernel), List.mem_of_getElem? (i := 1463) (by decide +kernel), List.mem_of_getElem? (i := 1464) (by decide +kernel)⟩
theorem lw_p83 : lw_okq (⟨"FuseMinutesModel", "isAskAhead", "()Z"⟩, 37) := ⟨⟨by decide +kernel, by decide +kernel⟩, List.mem_of_getElem? (i := 1169) (by decide +kernel), List.mem_of_getElem? (i := 1467) (by decide +kernel), List.mem_of_getElem? (i := 1468) (by decide +kernel)⟩
theorem lw_p84 : lw_okq (⟨"FuseMinutesModel", "canLight", "(IZ)Z"⟩, 37) := ⟨⟨by decide +kernel, by decide +kernel⟩, List.mem_of_getElem? (i := 1169) (by decide +kernel), List.mem_of_getElem? (i := 1487) (by decide +kernel), List.mem_of_getElem? (i := 1488) (by decide +kernel)⟩
theorem lw_p85 : lw_okq (⟨"FuseMinutesModel", "get", "(II)I"⟩, 37) := ⟨⟨by decide +kernel, by decide +kernel⟩, List.mem_of_getElem? (i := 1169) (by decide +kernel), List.mem_of_getElem? (i := 1491) (by decide +kernel), List.mem_of_getElem? (i := 1492) (by decide +kernel)⟩
theorem lw_p86 : lw_okq (⟨"FuseMinutesModel", "isOut", "(I)Z"⟩, 37) := ⟨⟨by decide +kernel, by decide +kernel⟩, List.mem_of_getElem? (i := 1169) (by decide +kernel), List.mem_of_getElem? (i := 1498) (by decide +kernel), List.mem_of_getElem? (i := 1499) (by decide +kernel)⟩
theorem lw_p87 : lw_okq (⟨"FuseMinutesModel", "lightsOf", "(IZ)I"⟩, 37) := ⟨⟨by decide +kernel, by decide +kernel⟩, List.mem_of_getElem? (i := 1169) (by decide +kernel), List.mem_of_getElem? (i := 1502) (by decide +kernel), List.mem_of_getElem? (i := 1503) (by decide +kernel)⟩
theorem lw_p88 : lw_okq (⟨"FuseMinutesModel", "name", "(I)V"⟩, 37) := ⟨⟨by decide +kernel, by decide +kernel⟩, List.mem_of_getElem? (i := 1169) (by decide +kernel), List.mem_of_getElem? (i := 1506) (by decide +kernel), List.mem_of_getElem? (i := 1507) (by decide +kernel)⟩
theorem lw_p89 : lw_okq (⟨"FuseMinutesModel", "endsNow", "()I"⟩, 37) := ⟨⟨by decide +kernel, by decide +kernel⟩, List.mem_of_getElem? (i := 1169) (by decide +kernel), List.mem_of_getElem? (i := 1510) (by decide +kernel), List.mem_of_getElem? (i := 1511) (by decide +kernel)⟩
theorem lw_p90 : lw_okq (⟨"FuseMinutesModel", "says", "(IIIII)I"⟩, 37) := ⟨⟨by decide +kernel, by decide +kernel⟩, List.mem_of_getElem? (i := 1169) (by decide +kernel), List.mem_of_getElem? (i := 1517) (by decide +kernel), List.mem_of_getElem? (i := 1518) (by decide +kernel)⟩
theorem lw_p91 : lw_okq (⟨"FuseMinutesModel", "summedUp", "(II)J"⟩, 37) := ⟨⟨by decide +kernel, by decide +kernel⟩, List.mem_of_getElem? (i := 1169) (by decide +kernel), List.mem_of_getElem? (i := 1521) (by decide +kernel), List.mem_of_getElem? (i := 1522) (by decide +kernel)⟩
theorem lw_p92 : lw_okq (⟨"FuseMinutesModel", "ofOne", "(IJ)J"⟩, 37) := ⟨⟨by decide +kernel, by decide +kernel⟩, List.mem_of_getElem? (i := 1169) (by decide +kernel), List.mem_of_getElem? (i := 1525) (by decide +kernel), List.mem_of_getElem? (i := 1526) (by decide +kernel)⟩
theorem lw_p93 : lw_okq (⟨"FuseMinutesModel", "outOf", "(J)J"⟩, 37) := ⟨⟨by decide +kernel, by decide +kernel⟩, List.mem_of_getElem? (i := 1169) (by decide +kernel), List.mem_of_getElem? (i := 1533) (by decide +kernel), List.mem_of_getElem? (i := 1534) (by decide +kernel)⟩
theorem lw_p94 : lw_okq (⟨"FuseMinutesModel", "keep", "()V"⟩, 37) := ⟨⟨by decide +kernel, by decide +kernel⟩, List.mem_of_getElem? (i := 1169) (by decide +kernel), List.mem_of_getElem? (i := 1554) (by decide +kernel), List.mem_of_getElem? (i := 1555) (by decide +kernel)⟩
theorem lw_p95 : lw_okq (⟨"FuseMinutesModel", "lightNow", "(IZ)I"⟩, 37) := ⟨⟨by decide +kernel, by decide +kernel⟩, List.mem_of_getElem? (i := 1169) (by decide +kernel), List.mem_of_getElem? (i := 1558) (by decide +kernel), List.mem_of_getElem? (i := 1559) (by decide +kernel)⟩
def lw_privs_6 : List (MethodName × Nat) := [(⟨"FuseMinutesModel", "beginOne", "()I"⟩, 37), (⟨"FuseMinutesModel", "nameOf", "()I"⟩, 37), (⟨"FuseMinutesModel", "opened", "(I)I"⟩, 37), (⟨"FuseMinutesModel", "isAskAhead", "()Z"⟩, 37), (⟨"FuseMinutesModel", "canLight", "(IZ)Z"⟩, 37), (⟨"FuseMinutesModel", "get", "(II)I"⟩, 37), (⟨"FuseMinutesModel", "isOut", "(I)Z"⟩, 37), (⟨"FuseMinutesModel", "lightsOf", "(IZ)I"⟩, 37), (⟨"FuseMinutesModel", "name", "(I)V"⟩, 37), (⟨"FuseMinutesModel", "endsNow", "()I"⟩, 37), (⟨"FuseMinutesModel", "says", "(IIIII)I"⟩, 37), (⟨"FuseMinutesModel", "summedUp", "(II)J"⟩, 37), (⟨"FuseMinutesModel", "ofOne", "(IJ)J"⟩, 37), (⟨"FuseMinutesModel", "outOf", "(J)J"⟩, 37), (⟨"FuseMinutesModel", "keep", "()V"⟩, 37), (⟨"FuseMinutesModel", "lightNow", "(IZ)I"⟩, 37)]
theorem lw_r6 : ∀ q ∈ lw_privs_6, lw_okq q := List.forall_mem_cons.mpr ⟨lw_p80, List.forall_mem_cons.mpr ⟨lw_p81, List.forall_mem_cons.mpr ⟨lw_p82, List.forall_mem_cons.mpr ⟨lw_p83, List.forall_mem_cons.mpr ⟨lw_p84, List.forall_mem_cons.mpr ⟨lw_p85, List.forall_mem_cons.mpr ⟨lw_p86, List.forall_mem_cons.mpr ⟨lw_p87, List.forall_mem_cons.mpr ⟨lw_p88, List.forall_mem_cons.mpr ⟨lw_p89, List.forall_mem_cons.mpr ⟨lw_p90, List.forall_mem_cons.mpr ⟨lw_p91, List.forall_mem_cons.mpr ⟨lw_p92, List.forall_mem_cons.mpr ⟨lw_p93, List.forall_mem_cons.mpr ⟨lw_p94, List.forall_mem_cons.mpr ⟨lw_p95, fun _ h => absurd h List.not_mem_nil⟩⟩⟩⟩⟩⟩⟩⟩⟩⟩⟩⟩⟩⟩⟩⟩
theorem lw_p96 : lw_okq (⟨"FuseMinutesModel", "failsOf", "(II)I"⟩, 37) := ⟨⟨by decide +kernel, by decide +kernel⟩, List.mem_of_getElem? (i := 1169) (by decide +kernel), List.mem_of_getElem? (i := 1562) (by decide +kernel), List.mem_of_getElem? (i := 1563) (by decide +kernel)⟩
theorem lw_p97 : lw_okq (⟨"FuseMinutesModel", "anew", "()V"⟩, 37) := ⟨⟨by decide +kernel, by decide +kernel⟩, List.mem_of_getElem? (i := 1169) (by decide +kernel), List.mem_of_getElem? (i := 1566) (by decide +kernel), List.mem_of_getElem? (i := 1567) (by decide +kernel)⟩
theorem lw_p98 : lw_okq (⟨"FuseMinutesModel", "write", "(III)V"⟩, 37) := ⟨⟨by decide +kernel, by decide +kernel⟩, List.mem_of_getElem? (i := 1169) (by decide +kernel), List.mem_of_getElem? (i := 1573) (by decide +kernel), List.mem_of_getElem? (i := 1574) (by decide +kernel)⟩
theorem lw_p99 : lw_okq (⟨"FuseMinutesModel", "canSnuff", "(IZ)Z"⟩, 37) := ⟨⟨by decide +kernel, by decide +kernel⟩, List.mem_of_getElem? (i := 1169) (by decide +kernel), List.mem_of_getElem? (i := 1581) (by decide +kernel), List.mem_of_getElem? (i := 1582) (by decide +kernel)⟩
theorem lw_p100 : lw_okq (⟨"FuseMinutesModel", "snuffNow", "(IZ)V"⟩, 37) := ⟨⟨by decide +kernel, by decide +kernel⟩, List.mem_of_getElem? (i := 1169) (by decide +kernel), List.mem_of_getElem? (i := 1585) (by decide +kernel), List.mem_of_getElem? (i := 1586) (by decide +kernel)⟩
theorem lw_p101 : lw_okq (⟨"FuseMinutesModel", "canRenew", "(I)Z"⟩, 37) := ⟨⟨by decide +kernel, by decide +kernel⟩, List.mem_of_getElem? (i := 1169) (by decide +kernel), List.mem_of_getElem? (i := 1593) (by decide +kernel), List.mem_of_getElem? (i := 1594) (by decide +kernel)⟩
theorem lw_p102 : lw_okq (⟨"FuseMinutesModel", "canBurn", "()Z"⟩, 37) := ⟨⟨by decide +kernel, by decide +kernel⟩, List.mem_of_getElem? (i := 1169) (by decide +kernel), List.mem_of_getElem? (i := 1601) (by decide +kernel), List.mem_of_getElem? (i := 1602) (by decide +kernel)⟩
theorem lw_p103 : lw_okq (⟨"FuseMinutesModel", "nextOut", "()I"⟩, 37) := ⟨⟨by decide +kernel, by decide +kernel⟩, List.mem_of_getElem? (i := 1169) (by decide +kernel), List.mem_of_getElem? (i := 1605) (by decide +kernel), List.mem_of_getElem? (i := 1606) (by decide +kernel)⟩
theorem lw_p104 : lw_okq (⟨"FuseMinutesModel", "outIn", "(I)I"⟩, 37) := ⟨⟨by decide +kernel, by decide +kernel⟩, List.mem_of_getElem? (i := 1169) (by decide +kernel), List.mem_of_getElem? (i := 1610) (by decide +kernel), List.mem_of_getElem? (i := 1611) (by decide +kernel)⟩
theorem lw_p105 : lw_okq (⟨"FuseMinutesModel", "pass", "(I)V"⟩, 37) := ⟨⟨by decide +kernel, by decide +kernel⟩, List.mem_of_getElem? (i := 1169) (by decide +kernel), List.mem_of_getElem? (i := 1615) (by decide +kernel), List.mem_of_getElem? (i := 1616) (by decide +kernel)⟩
theorem lw_p106 : lw_okq (⟨"FuseMinutesModel", "passOne", "(I)V"⟩, 37) := ⟨⟨by decide +kernel, by decide +kernel⟩, List.mem_of_getElem? (i := 1169) (by decide +kernel), List.mem_of_getElem? (i := 1619) (by decide +kernel), List.mem_of_getElem? (i := 1620) (by decide +kernel)⟩
theorem lw_p107 : lw_okq (⟨"FuseMinutesModel", "arePassed", "(I)Z"⟩, 37) := ⟨⟨by decide +kernel, by decide +kernel⟩, List.mem_of_getElem? (i := 1169) (by decide +kernel), List.mem_of_getElem? (i := 1627) (by decide +kernel), List.mem_of_getElem? (i := 1628) (by decide +kernel)⟩
theorem lw_p108 : lw_okq (⟨"FuseMinutesModel", "canPass", "()Z"⟩, 37) := ⟨⟨by decide +kernel, by decide +kernel⟩, List.mem_of_getElem? (i := 1169) (by decide +kernel), List.mem_of_getElem? (i := 1631) (by decide +kernel), List.mem_of_getElem? (i := 1632) (by decide +kernel)⟩
theorem lw_p109 : lw_okq (⟨"FuseMinutesModel", "isPlayed", "(I)Z"⟩, 37) := ⟨⟨by decide +kernel, by decide +kernel⟩, List.mem_of_getElem? (i := 1169) (by decide +kernel), List.mem_of_getElem? (i := 1639) (by decide +kernel), List.mem_of_getElem? (i := 1640) (by decide +kernel)⟩
theorem lw_p110 : lw_okq (⟨"FuseMinutesModel", "happens", "(I)V"⟩, 37) := ⟨⟨by decide +kernel, by decide +kernel⟩, List.mem_of_getElem? (i := 1169) (by decide +kernel), List.mem_of_getElem? (i := 1653) (by decide +kernel), List.mem_of_getElem? (i := 1654) (by decide +kernel)⟩
theorem lw_p111 : lw_okq (⟨"FuseMinutesModel", "entry", "(II)I"⟩, 37) := ⟨⟨by decide +kernel, by decide +kernel⟩, List.mem_of_getElem? (i := 1169) (by decide +kernel), List.mem_of_getElem? (i := 1673) (by decide +kernel), List.mem_of_getElem? (i := 1674) (by decide +kernel)⟩
def lw_privs_7 : List (MethodName × Nat) := [(⟨"FuseMinutesModel", "failsOf", "(II)I"⟩, 37), (⟨"FuseMinutesModel", "anew", "()V"⟩, 37), (⟨"FuseMinutesModel", "write", "(III)V"⟩, 37), (⟨"FuseMinutesModel", "canSnuff", "(IZ)Z"⟩, 37), (⟨"FuseMinutesModel", "snuffNow", "(IZ)V"⟩, 37), (⟨"FuseMinutesModel", "canRenew", "(I)Z"⟩, 37), (⟨"FuseMinutesModel", "canBurn", "()Z"⟩, 37), (⟨"FuseMinutesModel", "nextOut", "()I"⟩, 37), (⟨"FuseMinutesModel", "outIn", "(I)I"⟩, 37), (⟨"FuseMinutesModel", "pass", "(I)V"⟩, 37), (⟨"FuseMinutesModel", "passOne", "(I)V"⟩, 37), (⟨"FuseMinutesModel", "arePassed", "(I)Z"⟩, 37), (⟨"FuseMinutesModel", "canPass", "()Z"⟩, 37), (⟨"FuseMinutesModel", "isPlayed", "(I)Z"⟩, 37), (⟨"FuseMinutesModel", "happens", "(I)V"⟩, 37), (⟨"FuseMinutesModel", "entry", "(II)I"⟩, 37)]
theorem lw_r7 : ∀ q ∈ lw_privs_7, lw_okq q := List.forall_mem_cons.mpr ⟨lw_p96, List.forall_mem_cons.mpr ⟨lw_p97, List.forall_mem_cons.mpr ⟨lw_p98, List.forall_mem_cons.mpr ⟨lw_p99, List.forall_mem_cons.mpr ⟨lw_p100, List.forall_mem_cons.mpr ⟨lw_p101, List.forall_mem_cons.mpr ⟨lw_p102, List.forall_mem_cons.mpr ⟨lw_p103, List.forall_mem_cons.mpr ⟨lw_p104, List.forall_mem_cons.mpr ⟨lw_p105, List.forall_mem_cons.mpr ⟨lw_p106, List.forall_mem_cons.mpr ⟨lw_p107, List.forall_mem_cons.mpr ⟨lw_p108, List.forall_mem_cons.mpr ⟨lw_p109, List.forall_mem_cons.mpr ⟨lw_p110, List.forall_mem_cons.mpr ⟨lw_p111, fun _ h => absurd h List.not_mem_nil⟩⟩⟩⟩⟩⟩⟩⟩⟩⟩⟩⟩⟩⟩⟩⟩
theorem lw_p112 : lw_okq (⟨"FuseMinutesModel", "areCords", "(I)Z"⟩, 37) := ⟨⟨by decide +kernel, by decide +kernel⟩, List.mem_of_getElem? (i := 1169) (by decide +kernel), List.mem_of_getElem? (i := 1705) (by decide +kernel), List.mem_of_getElem? (i := 1706) (by decide +kernel)⟩
theorem lw_p113 : lw_okq (⟨"FuseMinutesModel", "layGives", "(I)V"⟩, 37) := ⟨⟨by decide +kernel, by decide +kernel⟩, List.mem_of_getElem? (i := 1169) (by decide +kernel), List.mem_of_getElem? (i := 1709) (by decide +kernel), List.mem_of_getElem? (i := 1710) (by decide +kernel)⟩
theorem lw_p114 : lw_okq (⟨"FuseMinutesModel", "layFirst", "(I)V"⟩, 37) := ⟨⟨by decide +kernel, by decide +kernel⟩, List.mem_of_getElem? (i := 1169) (by decide +kernel), List.mem_of_getElem? (i := 1713) (by decide +kernel), List.mem_of_getElem? (i := 1714) (by decide +kernel)⟩
theorem lw_p115 : lw_okq (⟨"FuseMinutesModel", "isLighting", "(II)Z"⟩, 37) := ⟨⟨by decide +kernel, by decide +kernel⟩, List.mem_of_getElem? (i := 1169) (by decide +kernel), List.mem_of_getElem? (i := 1717) (by decide +kernel), List.mem_of_getElem? (i := 1718) (by decide +kernel)⟩
theorem lw_p116 : lw_okq (⟨"FuseMinutesModel", "isNext", "(I)Z"⟩, 37) := ⟨⟨by decide +kernel, by decide +kernel⟩, List.mem_of_getElem? (i := 1169) (by decide +kernel), List.mem_of_getElem? (i := 1724) (by decide +kernel), List.mem_of_getElem? (i := 1725) (by decide +kernel)⟩
theorem lw_p117 : lw_okq (⟨"FuseMinutesModel", "mark", "(II)V"⟩, 37) := ⟨⟨by decide +kernel, by decide +kernel⟩, List.mem_of_getElem? (i := 1169) (by decide +kernel), List.mem_of_getElem? (i := 1728) (by decide +kernel), List.mem_of_getElem? (i := 1729) (by decide +kernel)⟩
theorem lw_p118 : lw_okq (⟨"FuseMinutesModel", "isGiven", "(II)Z"⟩, 37) := ⟨⟨by decide +kernel, by decide +kernel⟩, List.mem_of_getElem? (i := 1169) (by decide +kernel), List.mem_of_getElem? (i := 1732) (by decide +kernel), List.mem_of_getElem? (i := 1733) (by decide +kernel)⟩
theorem lw_p119 : lw_okq (⟨"FuseMinutesModel", "layRow", "(II)I"⟩, 37) := ⟨⟨by decide +kernel, by decide +kernel⟩, List.mem_of_getElem? (i := 1169) (by decide +kernel), List.mem_of_getElem? (i := 1751) (by decide +kernel), List.mem_of_getElem? (i := 1752) (by decide +kernel)⟩
theorem lw_p120 : lw_okq (⟨"FuseMinutesModel", "isRow", "(III)Z"⟩, 37) := ⟨⟨by decide +kernel, by decide +kernel⟩, List.mem_of_getElem? (i := 1169) (by decide +kernel), List.mem_of_getElem? (i := 1756) (by decide +kernel), List.mem_of_getElem? (i := 1757) (by decide +kernel)⟩
theorem lw_p121 : lw_okq (⟨"FuseMinutesModel", "isSpanAt", "(II)Z"⟩, 37) := ⟨⟨by decide +kernel, by decide +kernel⟩, List.mem_of_getElem? (i := 1169) (by decide +kernel), List.mem_of_getElem? (i := 1760) (by decide +kernel), List.mem_of_getElem? (i := 1761) (by decide +kernel)⟩
theorem lw_p122 : lw_okq (⟨"FuseMinutesModel", "isCheaper", "(II)Z"⟩, 37) := ⟨⟨by decide +kernel, by decide +kernel⟩, List.mem_of_getElem? (i := 1169) (by decide +kernel), List.mem_of_getElem? (i := 1776) (by decide +kernel), List.mem_of_getElem? (i := 1777) (by decide +kernel)⟩
theorem lw_p123 : lw_okq (⟨"FuseMinutesModel", "priceOf", "(I)I"⟩, 37) := ⟨⟨by decide +kernel, by decide +kernel⟩, List.mem_of_getElem? (i := 1169) (by decide +kernel), List.mem_of_getElem? (i := 1780) (by decide +kernel), List.mem_of_getElem? (i := 1781) (by decide +kernel)⟩
theorem lw_p124 : lw_okq (⟨"FuseMinutesModel", "layBundle", "()I"⟩, 37) := ⟨⟨by decide +kernel, by decide +kernel⟩, List.mem_of_getElem? (i := 1169) (by decide +kernel), List.mem_of_getElem? (i := 1792) (by decide +kernel), List.mem_of_getElem? (i := 1793) (by decide +kernel)⟩
theorem lw_p125 : lw_okq (⟨"FuseMinutesModel", "areParts", "(I)Z"⟩, 37) := ⟨⟨by decide +kernel, by decide +kernel⟩, List.mem_of_getElem? (i := 1169) (by decide +kernel), List.mem_of_getElem? (i := 1796) (by decide +kernel), List.mem_of_getElem? (i := 1797) (by decide +kernel)⟩
theorem lw_p126 : lw_okq (⟨"FuseMinutesModel", "isLower", "()Z"⟩, 37) := ⟨⟨by decide +kernel, by decide +kernel⟩, List.mem_of_getElem? (i := 1169) (by decide +kernel), List.mem_of_getElem? (i := 1800) (by decide +kernel), List.mem_of_getElem? (i := 1801) (by decide +kernel)⟩
theorem lw_p127 : lw_okq (⟨"FuseMinutesModel", "layGames", "(II)V"⟩, 37) := ⟨⟨by decide +kernel, by decide +kernel⟩, List.mem_of_getElem? (i := 1169) (by decide +kernel), List.mem_of_getElem? (i := 1812) (by decide +kernel), List.mem_of_getElem? (i := 1813) (by decide +kernel)⟩
def lw_privs_8 : List (MethodName × Nat) := [(⟨"FuseMinutesModel", "areCords", "(I)Z"⟩, 37), (⟨"FuseMinutesModel", "layGives", "(I)V"⟩, 37), (⟨"FuseMinutesModel", "layFirst", "(I)V"⟩, 37), (⟨"FuseMinutesModel", "isLighting", "(II)Z"⟩, 37), (⟨"FuseMinutesModel", "isNext", "(I)Z"⟩, 37), (⟨"FuseMinutesModel", "mark", "(II)V"⟩, 37), (⟨"FuseMinutesModel", "isGiven", "(II)Z"⟩, 37), (⟨"FuseMinutesModel", "layRow", "(II)I"⟩, 37), (⟨"FuseMinutesModel", "isRow", "(III)Z"⟩, 37), (⟨"FuseMinutesModel", "isSpanAt", "(II)Z"⟩, 37), (⟨"FuseMinutesModel", "isCheaper", "(II)Z"⟩, 37), (⟨"FuseMinutesModel", "priceOf", "(I)I"⟩, 37), (⟨"FuseMinutesModel", "layBundle", "()I"⟩, 37), (⟨"FuseMinutesModel", "areParts", "(I)Z"⟩, 37), (⟨"FuseMinutesModel", "isLower", "()Z"⟩, 37), (⟨"FuseMinutesModel", "layGames", "(II)V"⟩, 37)]
theorem lw_r8 : ∀ q ∈ lw_privs_8, lw_okq q := List.forall_mem_cons.mpr ⟨lw_p112, List.forall_mem_cons.mpr ⟨lw_p113, List.forall_mem_cons.mpr ⟨lw_p114, List.forall_mem_cons.mpr ⟨lw_p115, List.forall_mem_cons.mpr ⟨lw_p116, List.forall_mem_cons.mpr ⟨lw_p117, List.forall_mem_cons.mpr ⟨lw_p118, List.forall_mem_cons.mpr ⟨lw_p119, List.forall_mem_cons.mpr ⟨lw_p120, List.forall_mem_cons.mpr ⟨lw_p121, List.forall_mem_cons.mpr ⟨lw_p122, List.forall_mem_cons.mpr ⟨lw_p123, List.forall_mem_cons.mpr ⟨lw_p124, List.forall_mem_cons.mpr ⟨lw_p125, List.forall_mem_cons.mpr ⟨lw_p126, List.forall_mem_cons.mpr ⟨lw_p127, fun _ h => absurd h List.not_mem_nil⟩⟩⟩⟩⟩⟩⟩⟩⟩⟩⟩⟩⟩⟩⟩⟩
theorem lw_p128 : lw_okq (⟨"FuseMinutesModel", "bestOf", "(II[I)I"⟩, 37) := ⟨⟨by decide +kernel, by decide +kernel⟩, List.mem_of_getElem? (i := 1169) (by decide +kernel), List.mem_of_getElem? (i := 1822) (by decide +kernel), List.mem_of_getElem? (i := 1823) (by decide +kernel)⟩
theorem lw_p129 : lw_okq (⟨"FuseMinutesModel", "takenBy", "(III[I)I"⟩, 37) := ⟨⟨by decide +kernel, by decide +kernel⟩, List.mem_of_getElem? (i := 1169) (by decide +kernel), List.mem_of_getElem? (i := 1826) (by decide +kernel), List.mem_of_getElem? (i := 1827) (by decide +kernel)⟩
theorem lw_p130 : lw_okq (⟨"FuseMinutesModel", "isSuspect", "(I)Z"⟩, 37) := ⟨⟨by decide +kernel, by decide +kernel⟩, List.mem_of_getElem? (i := 1169) (by decide +kernel), List.mem_of_getElem? (i := 1845) (by decide +kernel), List.mem_of_getElem? (i := 1846) (by decide +kernel)⟩
def lw_privs_9 : List (MethodName × Nat) := [(⟨"FuseMinutesModel", "bestOf", "(II[I)I"⟩, 37), (⟨"FuseMinutesModel", "takenBy", "(III[I)I"⟩, 37), (⟨"FuseMinutesModel", "isSuspect", "(I)Z"⟩, 37)]
theorem lw_r9 : ∀ q ∈ lw_privs_9, lw_okq q := List.forall_mem_cons.mpr ⟨lw_p128, List.forall_mem_cons.mpr ⟨lw_p129, List.forall_mem_cons.mpr ⟨lw_p130, fun _ h => absurd h List.not_mem_nil⟩⟩⟩
def lw_privs : List (MethodName × Nat) := lw_privs_1 ++ (lw_privs_2 ++ (lw_privs_3 ++ (lw_privs_4 ++ (lw_privs_5 ++ (lw_privs_6 ++ (lw_privs_7 ++ (lw_privs_8 ++ (lw_privs_9))))))))
def lw_tbl : List Cond := k2_sels lw_privs ++ tables_1
theorem lw_privs_ok : ∀ q ∈ lw_privs, lw_okq q := by
  show ∀ q ∈ lw_privs_1 ++ (lw_privs_2 ++ (lw_privs_3 ++ (lw_privs_4 ++ (lw_privs_5 ++ (lw_privs_6 ++ (lw_privs_7 ++ (lw_privs_8 ++ (lw_privs_9)))))))), lw_okq q
  exact List.forall_mem_append.mpr ⟨lw_r1, List.forall_mem_append.mpr ⟨lw_r2, List.forall_mem_append.mpr ⟨lw_r3, List.forall_mem_append.mpr ⟨lw_r4, List.forall_mem_append.mpr ⟨lw_r5, List.forall_mem_append.mpr ⟨lw_r6, List.forall_mem_append.mpr ⟨lw_r7, List.forall_mem_append.mpr ⟨lw_r8, lw_r9⟩⟩⟩⟩⟩⟩⟩⟩
-- ===== end of PART A; then your names; then what follows =====
end
section
def RX0 : String := "FuseMinutes$Bundles"
def TX0 : u_T := fun k => match k with
  | 0 => ("FuseMinutes$Bundles", "giving", "[I", true)
  | 1 => ("FuseMinutes$Bundles", "shares", "[I", true)
  | 2 => ("FuseMinutes$Bundles", "wanted", "I", false)
  | _ => ("FuseMinutes$Bundles", "best", "J", false)
def tyX0 : Nat → FieldType := fun k => match k with
  | 0 => .array .int
  | 1 => .array .int
  | 2 => .int
  | _ => .long
abbrev wsX00 : List Cond := u_ws RX0 TX0 4
theorem nmX0 : ∀ a, a < 4 → ∀ b, b < 4 → a ≠ b → (TX0 a).2.1 ≠ (TX0 b).2.1 := by decide +kernel
theorem tyX0_ok : ∀ k, k < 4 → parseFieldDescriptor (TX0 k).2.2.1 = some (tyX0 k) := by decide +kernel
abbrev cX0_init : ByteArray := prog_2_method_1_code
def yX0_init : MethodName := ⟨RX0, "<init>", "()V"⟩
abbrev cX0_begin : ByteArray := prog_2_method_2_code
def yX0_begin : MethodName := ⟨RX0, "begin", "(I)V"⟩
abbrev cX0_find : ByteArray := prog_2_method_3_code
def yX0_find : MethodName := ⟨RX0, "find", "(LFuseMinutes$Store;I)Z"⟩
abbrev cX0_shareOut : ByteArray := prog_2_method_4_code
def yX0_shareOut : MethodName := ⟨RX0, "shareOut", "(I)V"⟩
abbrev cX0_givesAll : ByteArray := prog_2_method_5_code
def yX0_givesAll : MethodName := ⟨RX0, "givesAll", "()Z"⟩
abbrev cX0_rank : ByteArray := prog_2_method_6_code
def yX0_rank : MethodName := ⟨RX0, "rank", "(LFuseMinutes$Store;)J"⟩
abbrev cX0_cords : ByteArray := prog_2_method_7_code
def yX0_cords : MethodName := ⟨RX0, "cords", "()I"⟩
abbrev cX0_share : ByteArray := prog_2_method_8_code
def yX0_share : MethodName := ⟨RX0, "share", "(I)I"⟩
def RX1 : String := "FuseMinutes$Crews"
def TX1 : u_T := fun k => match k with
  | _ => ("", "", "", false)
def tyX1 : Nat → FieldType := fun k => match k with
  | _ => .int
abbrev wsX10 : List Cond := u_ws RX1 TX1 0
theorem nmX1 : ∀ a, a < 0 → ∀ b, b < 0 → a ≠ b → (TX1 a).2.1 ≠ (TX1 b).2.1 := by decide +kernel
theorem tyX1_ok : ∀ k, k < 0 → parseFieldDescriptor (TX1 k).2.2.1 = some (tyX1 k) := by decide +kernel
abbrev cX1_outcome : ByteArray := prog_3_method_2_code
def yX1_outcome : MethodName := ⟨RX1, "outcome", "(IIIII)I"⟩
abbrev cX1_behindTaking : ByteArray := prog_3_method_3_code
def yX1_behindTaking : MethodName := ⟨RX1, "behindTaking", "(IIIII)I"⟩
abbrev cX1_bestFirst : ByteArray := prog_3_method_4_code
def yX1_bestFirst : MethodName := ⟨RX1, "bestFirst", "(III)I"⟩
def RX2 : String := "FuseMinutes$Pit"
def TX2 : u_T := fun k => match k with
  | 0 => ("FuseMinutes$Pit", "cords", "I", false)
  | 1 => ("FuseMinutes$Pit", "sparks", "I", false)
  | 2 => ("FuseMinutes$Pit", "x", "I", false)
  | 3 => ("FuseMinutes$Pit", "lit", "I", false)
  | 4 => ("FuseMinutes$Pit", "rest", "[I", true)
  | 5 => ("FuseMinutes$Pit", "ends", "[I", true)
  | 6 => ("FuseMinutes$Pit", "book", "[I", true)
  | _ => ("FuseMinutes$Pit", "lines", "I", false)
def tyX2 : Nat → FieldType := fun k => match k with
  | 0 => .int
  | 1 => .int
  | 2 => .int
  | 3 => .int
  | 4 => .array .int
  | 5 => .array .int
  | 6 => .array .int
  | _ => .int
abbrev wsX20 : List Cond := u_ws RX2 TX2 8
theorem nmX2 : ∀ a, a < 8 → ∀ b, b < 8 → a ≠ b → (TX2 a).2.1 ≠ (TX2 b).2.1 := by decide +kernel
theorem tyX2_ok : ∀ k, k < 8 → parseFieldDescriptor (TX2 k).2.2.1 = some (tyX2 k) := by decide +kernel
abbrev cX2_init : ByteArray := prog_4_method_1_code
def yX2_init : MethodName := ⟨RX2, "<init>", "()V"⟩
abbrev cX2_copy : ByteArray := prog_4_method_2_code
def yX2_copy : MethodName := ⟨RX2, "copy", "(LFuseMinutes$Pit;)V"⟩
abbrev cX2_has : ByteArray := prog_4_method_3_code
def yX2_has : MethodName := ⟨RX2, "has", "(I)Z"⟩
abbrev cX2_lay : ByteArray := prog_4_method_4_code
def yX2_lay : MethodName := ⟨RX2, "lay", "(I)V"⟩
abbrev cX2_makeNew : ByteArray := prog_4_method_5_code
def yX2_makeNew : MethodName := ⟨RX2, "makeNew", "(II)V"⟩
abbrev cX2_burns : ByteArray := prog_4_method_6_code
def yX2_burns : MethodName := ⟨RX2, "burns", "(II)Z"⟩
abbrev cX2_putOut : ByteArray := prog_4_method_7_code
def yX2_putOut : MethodName := ⟨RX2, "putOut", "(II)V"⟩
abbrev cX2_touch : ByteArray := prog_4_method_8_code
def yX2_touch : MethodName := ⟨RX2, "touch", "(IIZ)V"⟩
abbrev cX2_draw : ByteArray := prog_4_method_9_code
def yX2_draw : MethodName := ⟨RX2, "draw", "()I"⟩
abbrev cX2_endsBurning : ByteArray := prog_4_method_10_code
def yX2_endsBurning : MethodName := ⟨RX2, "endsBurning", "()I"⟩
abbrev cX2_sparksToOut : ByteArray := prog_4_method_11_code
def yX2_sparksToOut : MethodName := ⟨RX2, "sparksToOut", "(I)I"⟩
abbrev cX2_sparksToNextOut : ByteArray := prog_4_method_12_code
def yX2_sparksToNextOut : MethodName := ⟨RX2, "sparksToNextOut", "()I"⟩
abbrev cX2_sparksToBurn : ByteArray := prog_4_method_13_code
def yX2_sparksToBurn : MethodName := ⟨RX2, "sparksToBurn", "()I"⟩
abbrev cX2_hasTimeFor : ByteArray := prog_4_method_14_code
def yX2_hasTimeFor : MethodName := ⟨RX2, "hasTimeFor", "(I)Z"⟩
abbrev cX2_pass : ByteArray := prog_4_method_15_code
def yX2_pass : MethodName := ⟨RX2, "pass", "(I)I"⟩
abbrev cX2_passWithin : ByteArray := prog_4_method_16_code
def yX2_passWithin : MethodName := ⟨RX2, "passWithin", "(I)I"⟩
abbrev cX2_writeDown : ByteArray := prog_4_method_17_code
def yX2_writeDown : MethodName := ⟨RX2, "writeDown", "(III)V"⟩
def RX3 : String := "FuseMinutes$Reader"
def TX3 : u_T := fun k => match k with
  | 0 => ("FuseMinutes$Reader", "bytes", "[I", true)
  | 1 => ("FuseMinutes$Reader", "length", "I", false)
  | 2 => ("FuseMinutes$Reader", "fault", "I", false)
  | 3 => ("FuseMinutes$Reader", "faultPlace", "I", false)
  | 4 => ("FuseMinutes$Reader", "at", "I", false)
  | 5 => ("FuseMinutes$Reader", "token", "I", false)
  | 6 => ("FuseMinutes$Reader", "place", "I", false)
  | 7 => ("FuseMinutes$Reader", "number", "I", false)
  | 8 => ("FuseMinutes$Reader", "open", "I", false)
  | 9 => ("FuseMinutes$Reader", "law", "I", false)
  | _ => ("FuseMinutes$Reader", "text", "LFuseMinutes$Text;", false)
def tyX3 : Nat → FieldType := fun k => match k with
  | 0 => .array .int
  | 1 => .int
  | 2 => .int
  | 3 => .int
  | 4 => .int
  | 5 => .int
  | 6 => .int
  | 7 => .int
  | 8 => .int
  | 9 => .int
  | _ => .object "FuseMinutes$Text"
abbrev wsX30 : List Cond := u_ws RX3 TX3 11
theorem nmX3 : ∀ a, a < 11 → ∀ b, b < 11 → a ≠ b → (TX3 a).2.1 ≠ (TX3 b).2.1 := by decide +kernel
theorem tyX3_ok : ∀ k, k < 11 → parseFieldDescriptor (TX3 k).2.2.1 = some (tyX3 k) := by decide +kernel
abbrev cX3_init : ByteArray := prog_5_method_1_code
def yX3_init : MethodName := ⟨RX3, "<init>", "()V"⟩
abbrev cX3_append : ByteArray := prog_5_method_2_code
def yX3_append : MethodName := ⟨RX3, "append", "(I)V"⟩
abbrev cX3_readInto : ByteArray := prog_5_method_3_code
def yX3_readInto : MethodName := ⟨RX3, "readInto", "(LFuseMinutes$Text;)V"⟩
abbrev cX3_readClause : ByteArray := prog_5_method_4_code
def yX3_readClause : MethodName := ⟨RX3, "readClause", "(I)V"⟩
abbrev cX3_readLaw : ByteArray := prog_5_method_5_code
def yX3_readLaw : MethodName := ⟨RX3, "readLaw", "(I)V"⟩
abbrev cX3_readAct : ByteArray := prog_5_method_6_code
def yX3_readAct : MethodName := ⟨RX3, "readAct", "(I)V"⟩
abbrev cX3_readNumber : ByteArray := prog_5_method_7_code
def yX3_readNumber : MethodName := ⟨RX3, "readNumber", "(II)I"⟩
abbrev cX3_readSum : ByteArray := prog_5_method_8_code
def yX3_readSum : MethodName := ⟨RX3, "readSum", "()V"⟩
abbrev cX3_readProduct : ByteArray := prog_5_method_9_code
def yX3_readProduct : MethodName := ⟨RX3, "readProduct", "()V"⟩
abbrev cX3_readOne : ByteArray := prog_5_method_10_code
def yX3_readOne : MethodName := ⟨RX3, "readOne", "()V"⟩
abbrev cX3_readOpening : ByteArray := prog_5_method_11_code
def yX3_readOpening : MethodName := ⟨RX3, "readOpening", "(I)V"⟩
abbrev cX3_readIf : ByteArray := prog_5_method_12_code
def yX3_readIf : MethodName := ⟨RX3, "readIf", "()V"⟩
abbrev cX3_readEither : ByteArray := prog_5_method_13_code
def yX3_readEither : MethodName := ⟨RX3, "readEither", "()V"⟩
abbrev cX3_readBoth : ByteArray := prog_5_method_14_code
def yX3_readBoth : MethodName := ⟨RX3, "readBoth", "()V"⟩
abbrev cX3_readAsk : ByteArray := prog_5_method_15_code
def yX3_readAsk : MethodName := ⟨RX3, "readAsk", "()V"⟩
abbrev cX3_opens : ByteArray := prog_5_method_16_code
def yX3_opens : MethodName := ⟨RX3, "opens", "()Z"⟩
abbrev cX3_isName : ByteArray := prog_5_method_17_code
def yX3_isName : MethodName := ⟨RX3, "isName", "(I)Z"⟩
abbrev cX3_compares : ByteArray := prog_5_method_18_code
def yX3_compares : MethodName := ⟨RX3, "compares", "(I)Z"⟩
abbrev cX3_expect : ByteArray := prog_5_method_19_code
def yX3_expect : MethodName := ⟨RX3, "expect", "(I)V"⟩
abbrev cX3_fail : ByteArray := prog_5_method_20_code
def yX3_fail : MethodName := ⟨RX3, "fail", "(I)V"⟩
abbrev cX3_next : ByteArray := prog_5_method_21_code
def yX3_next : MethodName := ⟨RX3, "next", "()V"⟩
abbrev cX3_byteAt : ByteArray := prog_5_method_22_code
def yX3_byteAt : MethodName := ⟨RX3, "byteAt", "(I)I"⟩
abbrev cX3_isLetter : ByteArray := prog_5_method_23_code
def yX3_isLetter : MethodName := ⟨RX3, "isLetter", "(I)Z"⟩
abbrev cX3_isDigit : ByteArray := prog_5_method_24_code
def yX3_isDigit : MethodName := ⟨RX3, "isDigit", "(I)Z"⟩
abbrev cX3_nextWord : ByteArray := prog_5_method_25_code
def yX3_nextWord : MethodName := ⟨RX3, "nextWord", "()I"⟩
abbrev cX3_spells : ByteArray := prog_5_method_26_code
def yX3_spells : MethodName := ⟨RX3, "spells", "(I)Z"⟩
abbrev cX3_nextNumber : ByteArray := prog_5_method_27_code
def yX3_nextNumber : MethodName := ⟨RX3, "nextNumber", "()I"⟩
abbrev cX3_nextSign : ByteArray := prog_5_method_28_code
def yX3_nextSign : MethodName := ⟨RX3, "nextSign", "(I)I"⟩
def RX4 : String := "FuseMinutes$Rows"
def TX4 : u_T := fun k => match k with
  | 0 => ("FuseMinutes$Rows", "minutes", "[I", true)
  | 1 => ("FuseMinutes$Rows", "rowBegins", "I", false)
  | 2 => ("FuseMinutes$Rows", "rowEnds", "I", false)
  | 3 => ("FuseMinutes$Rows", "spans", "[J", true)
  | 4 => ("FuseMinutes$Rows", "knownSets", "I", false)
  | 5 => ("FuseMinutes$Rows", "rowSet", "I", false)
  | 6 => ("FuseMinutes$Rows", "rowSpan", "I", false)
  | 7 => ("FuseMinutes$Rows", "rest", "[I", true)
  | 8 => ("FuseMinutes$Rows", "ends", "[I", true)
  | 9 => ("FuseMinutes$Rows", "chosen", "[I", true)
  | 10 => ("FuseMinutes$Rows", "times", "[I", true)
  | 11 => ("FuseMinutes$Rows", "walkedSet", "I", false)
  | 12 => ("FuseMinutes$Rows", "soughtSpan", "I", false)
  | _ => ("FuseMinutes$Rows", "lastMoment", "I", false)
def tyX4 : Nat → FieldType := fun k => match k with
  | 0 => .array .int
  | 1 => .int
  | 2 => .int
  | 3 => .array .long
  | 4 => .int
  | 5 => .int
  | 6 => .int
  | 7 => .array .int
  | 8 => .array .int
  | 9 => .array .int
  | 10 => .array .int
  | 11 => .int
  | 12 => .int
  | _ => .int
abbrev wsX40 : List Cond := u_ws RX4 TX4 14
theorem nmX4 : ∀ a, a < 14 → ∀ b, b < 14 → a ≠ b → (TX4 a).2.1 ≠ (TX4 b).2.1 := by decide +kernel
theorem tyX4_ok : ∀ k, k < 14 → parseFieldDescriptor (TX4 k).2.2.1 = some (tyX4 k) := by decide +kernel
abbrev cX4_init : ByteArray := prog_6_method_1_code
def yX4_init : MethodName := ⟨RX4, "<init>", "([I)V"⟩
abbrev cX4_forget : ByteArray := prog_6_method_2_code
def yX4_forget : MethodName := ⟨RX4, "forget", "(I)V"⟩
abbrev cX4_gives : ByteArray := prog_6_method_3_code
def yX4_gives : MethodName := ⟨RX4, "gives", "(II)Z"⟩
abbrev cX4_countSpans : ByteArray := prog_6_method_4_code
def yX4_countSpans : MethodName := ⟨RX4, "countSpans", "(I)I"⟩
abbrev cX4_spanNumber : ByteArray := prog_6_method_5_code
def yX4_spanNumber : MethodName := ⟨RX4, "spanNumber", "(II)I"⟩
abbrev cX4_spanInWord : ByteArray := prog_6_method_6_code
def yX4_spanInWord : MethodName := ⟨RX4, "spanInWord", "(III)I"⟩
abbrev cX4_nearestTo : ByteArray := prog_6_method_7_code
def yX4_nearestTo : MethodName := ⟨RX4, "nearestTo", "(II)I"⟩
abbrev cX4_nextMarked : ByteArray := prog_6_method_8_code
def yX4_nextMarked : MethodName := ⟨RX4, "nextMarked", "(III)I"⟩
abbrev cX4_marked : ByteArray := prog_6_method_9_code
def yX4_marked : MethodName := ⟨RX4, "marked", "(II)Z"⟩
abbrev cX4_learn : ByteArray := prog_6_method_10_code
def yX4_learn : MethodName := ⟨RX4, "learn", "(I)V"⟩
abbrev cX4_findRow : ByteArray := prog_6_method_11_code
def yX4_findRow : MethodName := ⟨RX4, "findRow", "(II)Z"⟩
abbrev cX4_litAt : ByteArray := prog_6_method_12_code
def yX4_litAt : MethodName := ⟨RX4, "litAt", "(I)I"⟩
abbrev cX4_begin : ByteArray := prog_6_method_13_code
def yX4_begin : MethodName := ⟨RX4, "begin", "(III)V"⟩
abbrev cX4_walk : ByteArray := prog_6_method_14_code
def yX4_walk : MethodName := ⟨RX4, "walk", "(I)Z"⟩
abbrev cX4_chooseNext : ByteArray := prog_6_method_15_code
def yX4_chooseNext : MethodName := ⟨RX4, "chooseNext", "(I)Z"⟩
abbrev cX4_burnOn : ByteArray := prog_6_method_16_code
def yX4_burnOn : MethodName := ⟨RX4, "burnOn", "(I)Z"⟩
abbrev cX4_arrive : ByteArray := prog_6_method_17_code
def yX4_arrive : MethodName := ⟨RX4, "arrive", "(I)Z"⟩
def RX5 : String := "FuseMinutes$Steps"
def TX5 : u_T := fun k => match k with
  | 0 => ("FuseMinutes$Steps", "pits", "[LFuseMinutes$Pit;", true)
  | 1 => ("FuseMinutes$Steps", "first", "I", false)
  | _ => ("FuseMinutes$Steps", "count", "I", false)
def tyX5 : Nat → FieldType := fun k => match k with
  | 0 => .array (.object "FuseMinutes$Pit")
  | 1 => .int
  | _ => .int
abbrev wsX50 : List Cond := u_ws RX5 TX5 3
theorem nmX5 : ∀ a, a < 3 → ∀ b, b < 3 → a ≠ b → (TX5 a).2.1 ≠ (TX5 b).2.1 := by decide +kernel
theorem tyX5_ok : ∀ k, k < 3 → parseFieldDescriptor (TX5 k).2.2.1 = some (tyX5 k) := by decide +kernel
abbrev cX5_init : ByteArray := prog_7_method_1_code
def yX5_init : MethodName := ⟨RX5, "<init>", "()V"⟩
abbrev cX5_push : ByteArray := prog_7_method_2_code
def yX5_push : MethodName := ⟨RX5, "push", "(LFuseMinutes$Pit;)V"⟩
abbrev cX5_pop : ByteArray := prog_7_method_3_code
def yX5_pop : MethodName := ⟨RX5, "pop", "(LFuseMinutes$Pit;)Z"⟩
abbrev cX5_copy : ByteArray := prog_7_method_4_code
def yX5_copy : MethodName := ⟨RX5, "copy", "(LFuseMinutes$Steps;)V"⟩
def RX6 : String := "FuseMinutes$Store"
def TX6 : u_T := fun k => match k with
  | 0 => ("FuseMinutes$Store", "pit", "LFuseMinutes$Pit;", true)
  | 1 => ("FuseMinutes$Store", "steps", "LFuseMinutes$Steps;", true)
  | 2 => ("FuseMinutes$Store", "minutes", "[I", true)
  | 3 => ("FuseMinutes$Store", "price", "[I", true)
  | 4 => ("FuseMinutes$Store", "wet", "I", false)
  | 5 => ("FuseMinutes$Store", "hands", "I", false)
  | 6 => ("FuseMinutes$Store", "texts", "I", false)
  | 7 => ("FuseMinutes$Store", "ruling", "I", false)
  | 8 => ("FuseMinutes$Store", "wanted", "LFuseMinutes$Told;", true)
  | 9 => ("FuseMinutes$Store", "tried", "LFuseMinutes$Told;", true)
  | _ => ("FuseMinutes$Store", "said", "LFuseMinutes$Told;", true)
def tyX6 : Nat → FieldType := fun k => match k with
  | 0 => .object "FuseMinutes$Pit"
  | 1 => .object "FuseMinutes$Steps"
  | 2 => .array .int
  | 3 => .array .int
  | 4 => .int
  | 5 => .int
  | 6 => .int
  | 7 => .int
  | 8 => .object "FuseMinutes$Told"
  | 9 => .object "FuseMinutes$Told"
  | _ => .object "FuseMinutes$Told"
abbrev wsX60 : List Cond := u_ws RX6 TX6 11
theorem nmX6 : ∀ a, a < 11 → ∀ b, b < 11 → a ≠ b → (TX6 a).2.1 ≠ (TX6 b).2.1 := by decide +kernel
theorem tyX6_ok : ∀ k, k < 11 → parseFieldDescriptor (TX6 k).2.2.1 = some (tyX6 k) := by decide +kernel
abbrev cX6_init : ByteArray := prog_8_method_1_code
def yX6_init : MethodName := ⟨RX6, "<init>", "()V"⟩
abbrev cX6_copy : ByteArray := prog_8_method_2_code
def yX6_copy : MethodName := ⟨RX6, "copy", "(LFuseMinutes$Store;)V"⟩
abbrev cX6_priceOf : ByteArray := prog_8_method_3_code
def yX6_priceOf : MethodName := ⟨RX6, "priceOf", "(I)I"⟩
def RX7 : String := "FuseMinutes$Sums"
def TX7 : u_T := fun k => match k with
  | 0 => ("FuseMinutes$Sums", "store", "LFuseMinutes$Store;", true)
  | 1 => ("FuseMinutes$Sums", "stack", "[I", true)
  | 2 => ("FuseMinutes$Sums", "cord", "I", false)
  | _ => ("FuseMinutes$Sums", "side", "I", false)
def tyX7 : Nat → FieldType := fun k => match k with
  | 0 => .object "FuseMinutes$Store"
  | 1 => .array .int
  | 2 => .int
  | _ => .int
abbrev wsX70 : List Cond := u_ws RX7 TX7 4
theorem nmX7 : ∀ a, a < 4 → ∀ b, b < 4 → a ≠ b → (TX7 a).2.1 ≠ (TX7 b).2.1 := by decide +kernel
theorem tyX7_ok : ∀ k, k < 4 → parseFieldDescriptor (TX7 k).2.2.1 = some (tyX7 k) := by decide +kernel
abbrev cX7_init : ByteArray := prog_9_method_1_code
def yX7_init : MethodName := ⟨RX7, "<init>", "(LFuseMinutes$Store;)V"⟩
abbrev cX7_valueOf : ByteArray := prog_9_method_2_code
def yX7_valueOf : MethodName := ⟨RX7, "valueOf", "(LFuseMinutes$Text;III)I"⟩
abbrev cX7_takes : ByteArray := prog_9_method_3_code
def yX7_takes : MethodName := ⟨RX7, "takes", "(I)I"⟩
abbrev cX7_limited : ByteArray := prog_9_method_4_code
def yX7_limited : MethodName := ⟨RX7, "limited", "(J)I"⟩
abbrev cX7_leaf : ByteArray := prog_9_method_5_code
def yX7_leaf : MethodName := ⟨RX7, "leaf", "(I)J"⟩
abbrev cX7_result : ByteArray := prog_9_method_6_code
def yX7_result : MethodName := ⟨RX7, "result", "(IJJJ)J"⟩
abbrev cX7_isOut : ByteArray := prog_9_method_7_code
def yX7_isOut : MethodName := ⟨RX7, "isOut", "(J)Z"⟩
abbrev cX7_holds : ByteArray := prog_9_method_8_code
def yX7_holds : MethodName := ⟨RX7, "holds", "(IJJ)Z"⟩
def RX8 : String := "FuseMinutes$Suspects"
def TX8 : u_T := fun k => match k with
  | _ => ("", "", "", false)
def tyX8 : Nat → FieldType := fun k => match k with
  | _ => .int
abbrev wsX80 : List Cond := u_ws RX8 TX8 0
theorem nmX8 : ∀ a, a < 0 → ∀ b, b < 0 → a ≠ b → (TX8 a).2.1 ≠ (TX8 b).2.1 := by decide +kernel
theorem tyX8_ok : ∀ k, k < 0 → parseFieldDescriptor (TX8 k).2.2.1 = some (tyX8 k) := by decide +kernel
abbrev cX8_fits : ByteArray := prog_10_method_2_code
def yX8_fits : MethodName := ⟨RX8, "fits", "(ILFuseMinutes$Told;)Z"⟩
abbrev cX8_inAll : ByteArray := prog_10_method_3_code
def yX8_inAll : MethodName := ⟨RX8, "inAll", "(II)I"⟩
abbrev cX8_inNone : ByteArray := prog_10_method_4_code
def yX8_inNone : MethodName := ⟨RX8, "inNone", "(II)I"⟩
abbrev cX8_lowest : ByteArray := prog_10_method_5_code
def yX8_lowest : MethodName := ⟨RX8, "lowest", "(I)I"⟩
abbrev cX8_bestTrial : ByteArray := prog_10_method_6_code
def yX8_bestTrial : MethodName := ⟨RX8, "bestTrial", "(II)I"⟩
abbrev cX8_countFailing : ByteArray := prog_10_method_7_code
def yX8_countFailing : MethodName := ⟨RX8, "countFailing", "(II)I"⟩
def RX9 : String := "FuseMinutes$Text"
def TX9 : u_T := fun k => match k with
  | 0 => ("FuseMinutes$Text", "kinds", "[I", true)
  | 1 => ("FuseMinutes$Text", "firsts", "[I", true)
  | 2 => ("FuseMinutes$Text", "seconds", "[I", true)
  | 3 => ("FuseMinutes$Text", "clauses", "I", false)
  | 4 => ("FuseMinutes$Text", "code", "[I", true)
  | 5 => ("FuseMinutes$Text", "length", "I", false)
  | 6 => ("FuseMinutes$Text", "lawBegins", "[I", true)
  | _ => ("FuseMinutes$Text", "lawEnds", "[I", true)
def tyX9 : Nat → FieldType := fun k => match k with
  | 0 => .array .int
  | 1 => .array .int
  | 2 => .array .int
  | 3 => .int
  | 4 => .array .int
  | 5 => .int
  | 6 => .array .int
  | _ => .array .int
abbrev wsX90 : List Cond := u_ws RX9 TX9 8
theorem nmX9 : ∀ a, a < 8 → ∀ b, b < 8 → a ≠ b → (TX9 a).2.1 ≠ (TX9 b).2.1 := by decide +kernel
theorem tyX9_ok : ∀ k, k < 8 → parseFieldDescriptor (TX9 k).2.2.1 = some (tyX9 k) := by decide +kernel
abbrev cX9_init : ByteArray := prog_11_method_1_code
def yX9_init : MethodName := ⟨RX9, "<init>", "()V"⟩
abbrev cX9_clear : ByteArray := prog_11_method_2_code
def yX9_clear : MethodName := ⟨RX9, "clear", "()V"⟩
abbrev cX9_rules : ByteArray := prog_11_method_3_code
def yX9_rules : MethodName := ⟨RX9, "rules", "(I)Z"⟩
abbrev cX9_addClause : ByteArray := prog_11_method_4_code
def yX9_addClause : MethodName := ⟨RX9, "addClause", "(III)V"⟩
abbrev cX9_addCode : ByteArray := prog_11_method_5_code
def yX9_addCode : MethodName := ⟨RX9, "addCode", "(I)V"⟩
def RX10 : String := "FuseMinutes$Told"
def TX10 : u_T := fun k => match k with
  | 0 => ("FuseMinutes$Told", "items", "[I", true)
  | _ => ("FuseMinutes$Told", "count", "I", false)
def tyX10 : Nat → FieldType := fun k => match k with
  | 0 => .array .int
  | _ => .int
abbrev wsX100 : List Cond := u_ws RX10 TX10 2
theorem nmX10 : ∀ a, a < 2 → ∀ b, b < 2 → a ≠ b → (TX10 a).2.1 ≠ (TX10 b).2.1 := by decide +kernel
theorem tyX10_ok : ∀ k, k < 2 → parseFieldDescriptor (TX10 k).2.2.1 = some (tyX10 k) := by decide +kernel
abbrev cX10_init : ByteArray := prog_12_method_1_code
def yX10_init : MethodName := ⟨RX10, "<init>", "(I)V"⟩
abbrev cX10_add : ByteArray := prog_12_method_2_code
def yX10_add : MethodName := ⟨RX10, "add", "(I)Z"⟩
abbrev cX10_copy : ByteArray := prog_12_method_3_code
def yX10_copy : MethodName := ⟨RX10, "copy", "(LFuseMinutes$Told;)V"⟩
def RX11 : String := "FuseMinutes"
def TX11 : u_T := fun k => match k with
  | 0 => ("FuseMinutes", "now", "LFuseMinutes$Store;", true)
  | 1 => ("FuseMinutes", "image", "LFuseMinutes$Store;", true)
  | 2 => ("FuseMinutes", "reader", "LFuseMinutes$Reader;", true)
  | 3 => ("FuseMinutes", "texts", "[LFuseMinutes$Text;", true)
  | 4 => ("FuseMinutes", "sums", "LFuseMinutes$Sums;", true)
  | 5 => ("FuseMinutes", "rows", "LFuseMinutes$Rows;", true)
  | _ => ("FuseMinutes", "bundles", "LFuseMinutes$Bundles;", true)
def tyX11 : Nat → FieldType := fun k => match k with
  | 0 => .object "FuseMinutes$Store"
  | 1 => .object "FuseMinutes$Store"
  | 2 => .object "FuseMinutes$Reader"
  | 3 => .array (.object "FuseMinutes$Text")
  | 4 => .object "FuseMinutes$Sums"
  | 5 => .object "FuseMinutes$Rows"
  | _ => .object "FuseMinutes$Bundles"
abbrev wsX110 : List Cond := u_ws RX11 TX11 7
theorem nmX11 : ∀ a, a < 7 → ∀ b, b < 7 → a ≠ b → (TX11 a).2.1 ≠ (TX11 b).2.1 := by decide +kernel
theorem tyX11_ok : ∀ k, k < 7 → parseFieldDescriptor (TX11 k).2.2.1 = some (tyX11 k) := by decide +kernel
abbrev cX11_init : ByteArray := prog_1_method_1_code
def yX11_init : MethodName := ⟨RX11, "<init>", "()V"⟩
abbrev cX11_cord : ByteArray := prog_1_method_2_code
def yX11_cord : MethodName := ⟨RX11, "cord", "(II)I"⟩
abbrev cX11_hands : ByteArray := prog_1_method_3_code
def yX11_hands : MethodName := ⟨RX11, "hands", "(I)Z"⟩
abbrev cX11_feed : ByteArray := prog_1_method_4_code
def yX11_feed : MethodName := ⟨RX11, "feed", "(IIIII)I"⟩
abbrev cX11_end : ByteArray := prog_1_method_5_code
def yX11_end : MethodName := ⟨RX11, "end", "(I)I"⟩
abbrev cX11_text : ByteArray := prog_1_method_6_code
def yX11_text : MethodName := ⟨RX11, "text", "()I"⟩
abbrev cX11_fault : ByteArray := prog_1_method_7_code
def yX11_fault : MethodName := ⟨RX11, "fault", "(I)I"⟩
abbrev cX11_by : ByteArray := prog_1_method_8_code
def yX11_by : MethodName := ⟨RX11, "by", "(I)Z"⟩
abbrev cX11_light : ByteArray := prog_1_method_9_code
def yX11_light : MethodName := ⟨RX11, "light", "(IZ)I"⟩
abbrev cX11_snuff : ByteArray := prog_1_method_10_code
def yX11_snuff : MethodName := ⟨RX11, "snuff", "(IZ)Z"⟩
abbrev cX11_renew : ByteArray := prog_1_method_11_code
def yX11_renew : MethodName := ⟨RX11, "renew", "(I)Z"⟩
abbrev cX11_burn : ByteArray := prog_1_method_12_code
def yX11_burn : MethodName := ⟨RX11, "burn", "()I"⟩
abbrev cX11_minute : ByteArray := prog_1_method_13_code
def yX11_minute : MethodName := ⟨RX11, "minute", "(I)I"⟩
abbrev cX11_played : ByteArray := prog_1_method_14_code
def yX11_played : MethodName := ⟨RX11, "played", "(I)I"⟩
abbrev cX11_shifts : ByteArray := prog_1_method_15_code
def yX11_shifts : MethodName := ⟨RX11, "shifts", "(II)I"⟩
abbrev cX11_undo : ByteArray := prog_1_method_16_code
def yX11_undo : MethodName := ⟨RX11, "undo", "()I"⟩
abbrev cX11_of : ByteArray := prog_1_method_17_code
def yX11_of : MethodName := ⟨RX11, "of", "(II)I"⟩
abbrev cX11_law : ByteArray := prog_1_method_18_code
def yX11_law : MethodName := ⟨RX11, "law", "(IZZ)I"⟩
abbrev cX11_is : ByteArray := prog_1_method_19_code
def yX11_is : MethodName := ⟨RX11, "is", "(I)I"⟩
abbrev cX11_book : ByteArray := prog_1_method_20_code
def yX11_book : MethodName := ⟨RX11, "book", "(II)I"⟩
abbrev cX11_foretold : ByteArray := prog_1_method_21_code
def yX11_foretold : MethodName := ⟨RX11, "foretold", "(II)I"⟩
abbrev cX11_out : ByteArray := prog_1_method_22_code
def yX11_out : MethodName := ⟨RX11, "out", "(I)I"⟩
abbrev cX11_spans : ByteArray := prog_1_method_23_code
def yX11_spans : MethodName := ⟨RX11, "spans", "(II)I"⟩
abbrev cX11_can : ByteArray := prog_1_method_24_code
def yX11_can : MethodName := ⟨RX11, "can", "(II)Z"⟩
abbrev cX11_fewest : ByteArray := prog_1_method_25_code
def yX11_fewest : MethodName := ⟨RX11, "fewest", "(I)I"⟩
abbrev cX11_cheapest : ByteArray := prog_1_method_26_code
def yX11_cheapest : MethodName := ⟨RX11, "cheapest", "(I)I"⟩
abbrev cX11_row : ByteArray := prog_1_method_27_code
def yX11_row : MethodName := ⟨RX11, "row", "(III)I"⟩
abbrev cX11_between : ByteArray := prog_1_method_28_code
def yX11_between : MethodName := ⟨RX11, "between", "(IIZ)I"⟩
abbrev cX11_nearest : ByteArray := prog_1_method_29_code
def yX11_nearest : MethodName := ⟨RX11, "nearest", "(II)I"⟩
abbrev cX11_want : ByteArray := prog_1_method_30_code
def yX11_want : MethodName := ⟨RX11, "want", "(I)I"⟩
abbrev cX11_bundle : ByteArray := prog_1_method_31_code
def yX11_bundle : MethodName := ⟨RX11, "bundle", "(Z)I"⟩
abbrev cX11_part : ByteArray := prog_1_method_32_code
def yX11_part : MethodName := ⟨RX11, "part", "(I)I"⟩
abbrev cX11_crews : ByteArray := prog_1_method_33_code
def yX11_crews : MethodName := ⟨RX11, "crews", "(II)I"⟩
abbrev cX11_take : ByteArray := prog_1_method_34_code
def yX11_take : MethodName := ⟨RX11, "take", "(II)I"⟩
abbrev cX11_wet : ByteArray := prog_1_method_35_code
def yX11_wet : MethodName := ⟨RX11, "wet", "(IZ)Z"⟩
abbrev cX11_tried : ByteArray := prog_1_method_36_code
def yX11_tried : MethodName := ⟨RX11, "tried", "(IZ)I"⟩
abbrev cX11_suspects : ByteArray := prog_1_method_37_code
def yX11_suspects : MethodName := ⟨RX11, "suspects", "(I)I"⟩
abbrev cX11_test : ByteArray := prog_1_method_38_code
def yX11_test : MethodName := ⟨RX11, "test", "()I"⟩
abbrev cX11_right : ByteArray := prog_1_method_39_code
def yX11_right : MethodName := ⟨RX11, "right", "(IIZ)J"⟩
abbrev cX11_tries : ByteArray := prog_1_method_40_code
def yX11_tries : MethodName := ⟨RX11, "tries", "(IIIZ)J"⟩
abbrev cX11_said : ByteArray := prog_1_method_41_code
def yX11_said : MethodName := ⟨RX11, "said", "(II)I"⟩
abbrev cX11_whose : ByteArray := prog_1_method_42_code
def yX11_whose : MethodName := ⟨RX11, "whose", "()I"⟩
abbrev cX11_longest : ByteArray := prog_1_method_43_code
def yX11_longest : MethodName := ⟨RX11, "longest", "()I"⟩
abbrev cX11_burning : ByteArray := prog_1_method_44_code
def yX11_burning : MethodName := ⟨RX11, "burning", "()I"⟩
abbrev cX11_dead : ByteArray := prog_1_method_45_code
def yX11_dead : MethodName := ⟨RX11, "dead", "()I"⟩
abbrev cX11_ledger : ByteArray := prog_1_method_46_code
def yX11_ledger : MethodName := ⟨RX11, "ledger", "(I)I"⟩
abbrev cX11_image : ByteArray := prog_1_method_47_code
def yX11_image : MethodName := ⟨RX11, "image", "()I"⟩
abbrev cX11_back : ByteArray := prog_1_method_48_code
def yX11_back : MethodName := ⟨RX11, "back", "()I"⟩
abbrev cX11_about : ByteArray := prog_1_method_49_code
def yX11_about : MethodName := ⟨RX11, "about", "(I)I"⟩
abbrev cX11_within : ByteArray := prog_1_method_50_code
def yX11_within : MethodName := ⟨RX11, "within", "(III)Z"⟩
abbrev cX11_isSpan : ByteArray := prog_1_method_51_code
def yX11_isSpan : MethodName := ⟨RX11, "isSpan", "(I)Z"⟩
abbrev cX11_allCords : ByteArray := prog_1_method_52_code
def yX11_allCords : MethodName := ⟨RX11, "allCords", "()I"⟩
abbrev cX11_isSet : ByteArray := prog_1_method_53_code
def yX11_isSet : MethodName := ⟨RX11, "isSet", "(I)Z"⟩
abbrev cX11_hasText : ByteArray := prog_1_method_54_code
def yX11_hasText : MethodName := ⟨RX11, "hasText", "(I)Z"⟩
abbrev cX11_canLight : ByteArray := prog_1_method_55_code
def yX11_canLight : MethodName := ⟨RX11, "canLight", "(II)Z"⟩
abbrev cX11_kindle : ByteArray := prog_1_method_56_code
def yX11_kindle : MethodName := ⟨RX11, "kindle", "(II)I"⟩
abbrev cX11_canRenew : ByteArray := prog_1_method_57_code
def yX11_canRenew : MethodName := ⟨RX11, "canRenew", "(I)Z"⟩
abbrev cX11_lightsSays : ByteArray := prog_1_method_58_code
def yX11_lightsSays : MethodName := ⟨RX11, "lightsSays", "(II)I"⟩
abbrev cX11_failsSays : ByteArray := prog_1_method_59_code
def yX11_failsSays : MethodName := ⟨RX11, "failsSays", "(II)I"⟩
abbrev cX11_carriedOut : ByteArray := prog_1_method_60_code
def yX11_carriedOut : MethodName := ⟨RX11, "carriedOut", "(III)Z"⟩
abbrev cX11_minutesPassed : ByteArray := prog_1_method_61_code
def yX11_minutesPassed : MethodName := ⟨RX11, "minutesPassed", "(I)Z"⟩
abbrev cX11_shiftBy : ByteArray := prog_1_method_62_code
def yX11_shiftBy : MethodName := ⟨RX11, "shiftBy", "(I)V"⟩
abbrev cX11_shiftCord : ByteArray := prog_1_method_63_code
def yX11_shiftCord : MethodName := ⟨RX11, "shiftCord", "(III)V"⟩
abbrev cX11_partOfLine : ByteArray := prog_1_method_64_code
def yX11_partOfLine : MethodName := ⟨RX11, "partOfLine", "(II)I"⟩
abbrev cX11_setsGiving : ByteArray := prog_1_method_65_code
def yX11_setsGiving : MethodName := ⟨RX11, "setsGiving", "(I)I"⟩
abbrev cX11_findBundle : ByteArray := prog_1_method_66_code
def yX11_findBundle : MethodName := ⟨RX11, "findBundle", "()Z"⟩
abbrev cX11_suspectSets : ByteArray := prog_1_method_67_code
def yX11_suspectSets : MethodName := ⟨RX11, "suspectSets", "()I"⟩
abbrev cX11_agreesWithAllSaid : ByteArray := prog_1_method_68_code
def yX11_agreesWithAllSaid : MethodName := ⟨RX11, "agreesWithAllSaid", "(I)Z"⟩
abbrev cX11_power : ByteArray := prog_1_method_69_code
def yX11_power : MethodName := ⟨RX11, "power", "(JI)J"⟩
abbrev cX11_inLowestTerms : ByteArray := prog_1_method_70_code
def yX11_inLowestTerms : MethodName := ⟨RX11, "inLowestTerms", "(JJZ)J"⟩
def RX12 : String := "FuseMinutesModel"
def TX12 : u_T := fun k => match k with
  | 0 => ("FuseMinutesModel", "a", "[I", true)
  | 1 => ("FuseMinutesModel", "image", "[I", true)
  | 2 => ("FuseMinutesModel", "texts", "[I", true)
  | 3 => ("FuseMinutesModel", "tape", "[I", true)
  | 4 => ("FuseMinutesModel", "taped", "I", false)
  | 5 => ("FuseMinutesModel", "fault", "I", false)
  | 6 => ("FuseMinutesModel", "faultPlace", "I", false)
  | 7 => ("FuseMinutesModel", "at", "I", false)
  | 8 => ("FuseMinutesModel", "place", "I", false)
  | 9 => ("FuseMinutesModel", "token", "I", false)
  | 10 => ("FuseMinutesModel", "number", "I", false)
  | 11 => ("FuseMinutesModel", "word", "J", false)
  | 12 => ("FuseMinutesModel", "text0", "I", false)
  | 13 => ("FuseMinutesModel", "written", "I", false)
  | 14 => ("FuseMinutesModel", "sort0", "I", false)
  | 15 => ("FuseMinutesModel", "pile", "[I", true)
  | 16 => ("FuseMinutesModel", "piled", "I", false)
  | 17 => ("FuseMinutesModel", "opens", "I", false)
  | 18 => ("FuseMinutesModel", "isWhole", "Z", false)
  | 19 => ("FuseMinutesModel", "once", "I", false)
  | 20 => ("FuseMinutesModel", "named", "[I", true)
  | 21 => ("FuseMinutesModel", "values", "[J", true)
  | 22 => ("FuseMinutesModel", "truth", "[Z", true)
  | 23 => ("FuseMinutesModel", "isWritten", "Z", false)
  | 24 => ("FuseMinutesModel", "wentOut", "I", false)
  | 25 => ("FuseMinutesModel", "aside", "[I", true)
  | 26 => ("FuseMinutesModel", "times", "[I", true)
  | 27 => ("FuseMinutesModel", "codes", "[I", true)
  | 28 => ("FuseMinutesModel", "rests", "[I", true)
  | 29 => ("FuseMinutesModel", "ends", "[I", true)
  | 30 => ("FuseMinutesModel", "gives", "[Z", true)
  | 31 => ("FuseMinutesModel", "given", "[I", true)
  | 32 => ("FuseMinutesModel", "begins", "I", false)
  | 33 => ("FuseMinutesModel", "parts", "[I", true)
  | 34 => ("FuseMinutesModel", "bestParts", "[I", true)
  | 35 => ("FuseMinutesModel", "games", "[I", true)
  | _ => ("FuseMinutesModel", "otherGames", "[I", true)
def tyX12 : Nat → FieldType := fun k => match k with
  | 0 => .array .int
  | 1 => .array .int
  | 2 => .array .int
  | 3 => .array .int
  | 4 => .int
  | 5 => .int
  | 6 => .int
  | 7 => .int
  | 8 => .int
  | 9 => .int
  | 10 => .int
  | 11 => .long
  | 12 => .int
  | 13 => .int
  | 14 => .int
  | 15 => .array .int
  | 16 => .int
  | 17 => .int
  | 18 => .boolean
  | 19 => .int
  | 20 => .array .int
  | 21 => .array .long
  | 22 => .array .boolean
  | 23 => .boolean
  | 24 => .int
  | 25 => .array .int
  | 26 => .array .int
  | 27 => .array .int
  | 28 => .array .int
  | 29 => .array .int
  | 30 => .array .boolean
  | 31 => .array .int
  | 32 => .int
  | 33 => .array .int
  | 34 => .array .int
  | 35 => .array .int
  | _ => .array .int
abbrev wsX120 : List Cond := u_ws RX12 TX12 37
theorem nmX12 : ∀ a, a < 37 → ∀ b, b < 37 → a ≠ b → (TX12 a).2.1 ≠ (TX12 b).2.1 := by decide +kernel
theorem tyX12_ok : ∀ k, k < 37 → parseFieldDescriptor (TX12 k).2.2.1 = some (tyX12 k) := by decide +kernel
abbrev cX12_init : ByteArray := prog_14_method_1_code
def yX12_init : MethodName := ⟨RX12, "<init>", "()V"⟩
abbrev cX12_copy : ByteArray := prog_14_method_2_code
def yX12_copy : MethodName := ⟨RX12, "copy", "([I[I)V"⟩
abbrev cX12_isIn : ByteArray := prog_14_method_3_code
def yX12_isIn : MethodName := ⟨RX12, "isIn", "(III)Z"⟩
abbrev cX12_cut : ByteArray := prog_14_method_4_code
def yX12_cut : MethodName := ⟨RX12, "cut", "(JII)I"⟩
abbrev cX12_has : ByteArray := prog_14_method_5_code
def yX12_has : MethodName := ⟨RX12, "has", "(II)Z"⟩
abbrev cX12_bits : ByteArray := prog_14_method_6_code
def yX12_bits : MethodName := ⟨RX12, "bits", "(I)I"⟩
abbrev cX12_isCord : ByteArray := prog_14_method_7_code
def yX12_isCord : MethodName := ⟨RX12, "isCord", "(I)Z"⟩
abbrev cX12_areCords : ByteArray := prog_14_method_8_code
def yX12_areCords : MethodName := ⟨RX12, "areCords", "(I)Z"⟩
abbrev cX12_isSpan : ByteArray := prog_14_method_9_code
def yX12_isSpan : MethodName := ⟨RX12, "isSpan", "(I)Z"⟩
abbrev cX12_get : ByteArray := prog_14_method_10_code
def yX12_get : MethodName := ⟨RX12, "get", "(II)I"⟩
abbrev cX12_put : ByteArray := prog_14_method_11_code
def yX12_put : MethodName := ⟨RX12, "put", "(III)V"⟩
abbrev cX12_full : ByteArray := prog_14_method_12_code
def yX12_full : MethodName := ⟨RX12, "full", "(I)I"⟩
abbrev cX12_priceOf : ByteArray := prog_14_method_13_code
def yX12_priceOf : MethodName := ⟨RX12, "priceOf", "(I)I"⟩
abbrev cX12_isOut : ByteArray := prog_14_method_14_code
def yX12_isOut : MethodName := ⟨RX12, "isOut", "(I)Z"⟩
abbrev cX12_endsNow : ByteArray := prog_14_method_15_code
def yX12_endsNow : MethodName := ⟨RX12, "endsNow", "()I"⟩
abbrev cX12_cord : ByteArray := prog_14_method_16_code
def yX12_cord : MethodName := ⟨RX12, "cord", "(II)I"⟩
abbrev cX12_begin : ByteArray := prog_14_method_17_code
def yX12_begin : MethodName := ⟨RX12, "begin", "(I)V"⟩
abbrev cX12_hands : ByteArray := prog_14_method_18_code
def yX12_hands : MethodName := ⟨RX12, "hands", "(I)Z"⟩
abbrev cX12_wet : ByteArray := prog_14_method_19_code
def yX12_wet : MethodName := ⟨RX12, "wet", "(IZ)Z"⟩
abbrev cX12_four : ByteArray := prog_14_method_20_code
def yX12_four : MethodName := ⟨RX12, "four", "(I)V"⟩
abbrev cX12_feed : ByteArray := prog_14_method_21_code
def yX12_feed : MethodName := ⟨RX12, "feed", "(IIIII)I"⟩
abbrev cX12_end : ByteArray := prog_14_method_22_code
def yX12_end : MethodName := ⟨RX12, "end", "(I)I"⟩
abbrev cX12_byteAt : ByteArray := prog_14_method_23_code
def yX12_byteAt : MethodName := ⟨RX12, "byteAt", "(I)I"⟩
abbrev cX12_isLetterByte : ByteArray := prog_14_method_24_code
def yX12_isLetterByte : MethodName := ⟨RX12, "isLetterByte", "(I)Z"⟩
abbrev cX12_isFigure : ByteArray := prog_14_method_25_code
def yX12_isFigure : MethodName := ⟨RX12, "isFigure", "(I)Z"⟩
abbrev cX12_isSign : ByteArray := prog_14_method_26_code
def yX12_isSign : MethodName := ⟨RX12, "isSign", "(I)Z"⟩
abbrev cX12_nextToken : ByteArray := prog_14_method_27_code
def yX12_nextToken : MethodName := ⟨RX12, "nextToken", "()V"⟩
abbrev cX12_w2 : ByteArray := prog_14_method_28_code
def yX12_w2 : MethodName := ⟨RX12, "w2", "(II)J"⟩
abbrev cX12_w3 : ByteArray := prog_14_method_29_code
def yX12_w3 : MethodName := ⟨RX12, "w3", "(III)J"⟩
abbrev cX12_w4 : ByteArray := prog_14_method_30_code
def yX12_w4 : MethodName := ⟨RX12, "w4", "(IIII)J"⟩
abbrev cX12_w5 : ByteArray := prog_14_method_31_code
def yX12_w5 : MethodName := ⟨RX12, "w5", "(IIIII)J"⟩
abbrev cX12_w6 : ByteArray := prog_14_method_32_code
def yX12_w6 : MethodName := ⟨RX12, "w6", "(IIIIII)J"⟩
abbrev cX12_isWord : ByteArray := prog_14_method_33_code
def yX12_isWord : MethodName := ⟨RX12, "isWord", "(J)Z"⟩
abbrev cX12_emit : ByteArray := prog_14_method_34_code
def yX12_emit : MethodName := ⟨RX12, "emit", "(II)V"⟩
abbrev cX12_nameOf : ByteArray := prog_14_method_35_code
def yX12_nameOf : MethodName := ⟨RX12, "nameOf", "()I"⟩
abbrev cX12_rank : ByteArray := prog_14_method_36_code
def yX12_rank : MethodName := ⟨RX12, "rank", "(I)I"⟩
abbrev cX12_settle : ByteArray := prog_14_method_37_code
def yX12_settle : MethodName := ⟨RX12, "settle", "(I)V"⟩
abbrev cX12_openAt : ByteArray := prog_14_method_38_code
def yX12_openAt : MethodName := ⟨RX12, "openAt", "()I"⟩
abbrev cX12_openNow : ByteArray := prog_14_method_39_code
def yX12_openNow : MethodName := ⟨RX12, "openNow", "()I"⟩
abbrev cX12_isCompared : ByteArray := prog_14_method_40_code
def yX12_isCompared : MethodName := ⟨RX12, "isCompared", "()Z"⟩
abbrev cX12_isAskAhead : ByteArray := prog_14_method_41_code
def yX12_isAskAhead : MethodName := ⟨RX12, "isAskAhead", "()Z"⟩
abbrev cX12_opened : ByteArray := prog_14_method_42_code
def yX12_opened : MethodName := ⟨RX12, "opened", "(I)I"⟩
abbrev cX12_beginOne : ByteArray := prog_14_method_43_code
def yX12_beginOne : MethodName := ⟨RX12, "beginOne", "()I"⟩
abbrev cX12_compareOf : ByteArray := prog_14_method_44_code
def yX12_compareOf : MethodName := ⟨RX12, "compareOf", "()I"⟩
abbrev cX12_betweenOf : ByteArray := prog_14_method_45_code
def yX12_betweenOf : MethodName := ⟨RX12, "betweenOf", "()I"⟩
abbrev cX12_partOf : ByteArray := prog_14_method_46_code
def yX12_partOf : MethodName := ⟨RX12, "partOf", "(I)I"⟩
abbrev cX12_behindOne : ByteArray := prog_14_method_47_code
def yX12_behindOne : MethodName := ⟨RX12, "behindOne", "()Z"⟩
abbrev cX12_summed : ByteArray := prog_14_method_48_code
def yX12_summed : MethodName := ⟨RX12, "summed", "()I"⟩
abbrev cX12_figure : ByteArray := prog_14_method_49_code
def yX12_figure : MethodName := ⟨RX12, "figure", "(III)I"⟩
abbrev cX12_lawClause : ByteArray := prog_14_method_50_code
def yX12_lawClause : MethodName := ⟨RX12, "lawClause", "(I)I"⟩
abbrev cX12_cordClause : ByteArray := prog_14_method_51_code
def yX12_cordClause : MethodName := ⟨RX12, "cordClause", "(I)I"⟩
abbrev cX12_body : ByteArray := prog_14_method_52_code
def yX12_body : MethodName := ⟨RX12, "body", "(II)I"⟩
abbrev cX12_sortOf : ByteArray := prog_14_method_53_code
def yX12_sortOf : MethodName := ⟨RX12, "sortOf", "()I"⟩
abbrev cX12_clause : ByteArray := prog_14_method_54_code
def yX12_clause : MethodName := ⟨RX12, "clause", "()I"⟩
abbrev cX12_readText : ByteArray := prog_14_method_55_code
def yX12_readText : MethodName := ⟨RX12, "readText", "()I"⟩
abbrev cX12_text : ByteArray := prog_14_method_56_code
def yX12_text : MethodName := ⟨RX12, "text", "()I"⟩
abbrev cX12_fault : ByteArray := prog_14_method_57_code
def yX12_fault : MethodName := ⟨RX12, "fault", "(I)I"⟩
abbrev cX12_by : ByteArray := prog_14_method_58_code
def yX12_by : MethodName := ⟨RX12, "by", "(I)Z"⟩
abbrev cX12_clip : ByteArray := prog_14_method_59_code
def yX12_clip : MethodName := ⟨RX12, "clip", "(J)J"⟩
abbrev cX12_two : ByteArray := prog_14_method_60_code
def yX12_two : MethodName := ⟨RX12, "two", "(IJJ)J"⟩
abbrev cX12_isAsked : ByteArray := prog_14_method_61_code
def yX12_isAsked : MethodName := ⟨RX12, "isAsked", "(IJJ)Z"⟩
abbrev cX12_outOf : ByteArray := prog_14_method_62_code
def yX12_outOf : MethodName := ⟨RX12, "outOf", "(J)J"⟩
abbrev cX12_twosOf : ByteArray := prog_14_method_63_code
def yX12_twosOf : MethodName := ⟨RX12, "twosOf", "(J)J"⟩
abbrev cX12_ofOne : ByteArray := prog_14_method_64_code
def yX12_ofOne : MethodName := ⟨RX12, "ofOne", "(IJ)J"⟩
abbrev cX12_joined : ByteArray := prog_14_method_65_code
def yX12_joined : MethodName := ⟨RX12, "joined", "(IZZ)Z"⟩
abbrev cX12_summedUp : ByteArray := prog_14_method_66_code
def yX12_summedUp : MethodName := ⟨RX12, "summedUp", "(II)J"⟩
abbrev cX12_says : ByteArray := prog_14_method_67_code
def yX12_says : MethodName := ⟨RX12, "says", "(IIIII)I"⟩
abbrev cX12_name : ByteArray := prog_14_method_68_code
def yX12_name : MethodName := ⟨RX12, "name", "(I)V"⟩
abbrev cX12_lightsOf : ByteArray := prog_14_method_69_code
def yX12_lightsOf : MethodName := ⟨RX12, "lightsOf", "(IZ)I"⟩
abbrev cX12_failsOf : ByteArray := prog_14_method_70_code
def yX12_failsOf : MethodName := ⟨RX12, "failsOf", "(II)I"⟩
abbrev cX12_write : ByteArray := prog_14_method_71_code
def yX12_write : MethodName := ⟨RX12, "write", "(III)V"⟩
abbrev cX12_anew : ByteArray := prog_14_method_72_code
def yX12_anew : MethodName := ⟨RX12, "anew", "()V"⟩
abbrev cX12_sideBit : ByteArray := prog_14_method_73_code
def yX12_sideBit : MethodName := ⟨RX12, "sideBit", "(Z)I"⟩
abbrev cX12_outIn : ByteArray := prog_14_method_74_code
def yX12_outIn : MethodName := ⟨RX12, "outIn", "(I)I"⟩
abbrev cX12_nextOut : ByteArray := prog_14_method_75_code
def yX12_nextOut : MethodName := ⟨RX12, "nextOut", "()I"⟩
abbrev cX12_passOne : ByteArray := prog_14_method_76_code
def yX12_passOne : MethodName := ⟨RX12, "passOne", "(I)V"⟩
abbrev cX12_pass : ByteArray := prog_14_method_77_code
def yX12_pass : MethodName := ⟨RX12, "pass", "(I)V"⟩
abbrev cX12_canLight : ByteArray := prog_14_method_78_code
def yX12_canLight : MethodName := ⟨RX12, "canLight", "(IZ)Z"⟩
abbrev cX12_lightNow : ByteArray := prog_14_method_79_code
def yX12_lightNow : MethodName := ⟨RX12, "lightNow", "(IZ)I"⟩
abbrev cX12_canSnuff : ByteArray := prog_14_method_80_code
def yX12_canSnuff : MethodName := ⟨RX12, "canSnuff", "(IZ)Z"⟩
abbrev cX12_snuffNow : ByteArray := prog_14_method_81_code
def yX12_snuffNow : MethodName := ⟨RX12, "snuffNow", "(IZ)V"⟩
abbrev cX12_canRenew : ByteArray := prog_14_method_82_code
def yX12_canRenew : MethodName := ⟨RX12, "canRenew", "(I)Z"⟩
abbrev cX12_canBurn : ByteArray := prog_14_method_83_code
def yX12_canBurn : MethodName := ⟨RX12, "canBurn", "()Z"⟩
abbrev cX12_canPass : ByteArray := prog_14_method_84_code
def yX12_canPass : MethodName := ⟨RX12, "canPass", "()Z"⟩
abbrev cX12_keep : ByteArray := prog_14_method_85_code
def yX12_keep : MethodName := ⟨RX12, "keep", "()V"⟩
abbrev cX12_undo : ByteArray := prog_14_method_86_code
def yX12_undo : MethodName := ⟨RX12, "undo", "()I"⟩
abbrev cX12_light : ByteArray := prog_14_method_87_code
def yX12_light : MethodName := ⟨RX12, "light", "(IZ)I"⟩
abbrev cX12_snuff : ByteArray := prog_14_method_88_code
def yX12_snuff : MethodName := ⟨RX12, "snuff", "(IZ)Z"⟩
abbrev cX12_renew : ByteArray := prog_14_method_89_code
def yX12_renew : MethodName := ⟨RX12, "renew", "(I)Z"⟩
abbrev cX12_burn : ByteArray := prog_14_method_90_code
def yX12_burn : MethodName := ⟨RX12, "burn", "()I"⟩
abbrev cX12_arePassed : ByteArray := prog_14_method_91_code
def yX12_arePassed : MethodName := ⟨RX12, "arePassed", "(I)Z"⟩
abbrev cX12_minute : ByteArray := prog_14_method_92_code
def yX12_minute : MethodName := ⟨RX12, "minute", "(I)I"⟩
abbrev cX12_isPlayed : ByteArray := prog_14_method_93_code
def yX12_isPlayed : MethodName := ⟨RX12, "isPlayed", "(I)Z"⟩
abbrev cX12_played : ByteArray := prog_14_method_94_code
def yX12_played : MethodName := ⟨RX12, "played", "(I)I"⟩
abbrev cX12_happens : ByteArray := prog_14_method_95_code
def yX12_happens : MethodName := ⟨RX12, "happens", "(I)V"⟩
abbrev cX12_shifts : ByteArray := prog_14_method_96_code
def yX12_shifts : MethodName := ⟨RX12, "shifts", "(II)I"⟩
abbrev cX12_of : ByteArray := prog_14_method_97_code
def yX12_of : MethodName := ⟨RX12, "of", "(II)I"⟩
abbrev cX12_law : ByteArray := prog_14_method_98_code
def yX12_law : MethodName := ⟨RX12, "law", "(IZZ)I"⟩
abbrev cX12_is : ByteArray := prog_14_method_99_code
def yX12_is : MethodName := ⟨RX12, "is", "(I)I"⟩
abbrev cX12_entry : ByteArray := prog_14_method_100_code
def yX12_entry : MethodName := ⟨RX12, "entry", "(II)I"⟩
abbrev cX12_book : ByteArray := prog_14_method_101_code
def yX12_book : MethodName := ⟨RX12, "book", "(II)I"⟩
abbrev cX12_ledger : ByteArray := prog_14_method_102_code
def yX12_ledger : MethodName := ⟨RX12, "ledger", "(I)I"⟩
abbrev cX12_longest : ByteArray := prog_14_method_103_code
def yX12_longest : MethodName := ⟨RX12, "longest", "()I"⟩
abbrev cX12_burning : ByteArray := prog_14_method_104_code
def yX12_burning : MethodName := ⟨RX12, "burning", "()I"⟩
abbrev cX12_dead : ByteArray := prog_14_method_105_code
def yX12_dead : MethodName := ⟨RX12, "dead", "()I"⟩
abbrev cX12_foretold : ByteArray := prog_14_method_106_code
def yX12_foretold : MethodName := ⟨RX12, "foretold", "(II)I"⟩
abbrev cX12_out : ByteArray := prog_14_method_107_code
def yX12_out : MethodName := ⟨RX12, "out", "(I)I"⟩
abbrev cX12_layFirst : ByteArray := prog_14_method_108_code
def yX12_layFirst : MethodName := ⟨RX12, "layFirst", "(I)V"⟩
abbrev cX12_digitOf : ByteArray := prog_14_method_109_code
def yX12_digitOf : MethodName := ⟨RX12, "digitOf", "(II)I"⟩
abbrev cX12_isLighting : ByteArray := prog_14_method_110_code
def yX12_isLighting : MethodName := ⟨RX12, "isLighting", "(II)Z"⟩
abbrev cX12_isNext : ByteArray := prog_14_method_111_code
def yX12_isNext : MethodName := ⟨RX12, "isNext", "(I)Z"⟩
abbrev cX12_forget : ByteArray := prog_14_method_112_code
def yX12_forget : MethodName := ⟨RX12, "forget", "()V"⟩
abbrev cX12_mark : ByteArray := prog_14_method_113_code
def yX12_mark : MethodName := ⟨RX12, "mark", "(II)V"⟩
abbrev cX12_layGives : ByteArray := prog_14_method_114_code
def yX12_layGives : MethodName := ⟨RX12, "layGives", "(I)V"⟩
abbrev cX12_isGiven : ByteArray := prog_14_method_115_code
def yX12_isGiven : MethodName := ⟨RX12, "isGiven", "(II)Z"⟩
abbrev cX12_spans : ByteArray := prog_14_method_116_code
def yX12_spans : MethodName := ⟨RX12, "spans", "(II)I"⟩
abbrev cX12_can : ByteArray := prog_14_method_117_code
def yX12_can : MethodName := ⟨RX12, "can", "(II)Z"⟩
abbrev cX12_nearest : ByteArray := prog_14_method_118_code
def yX12_nearest : MethodName := ⟨RX12, "nearest", "(II)I"⟩
abbrev cX12_isSpanAt : ByteArray := prog_14_method_119_code
def yX12_isSpanAt : MethodName := ⟨RX12, "isSpanAt", "(II)Z"⟩
abbrev cX12_isRow : ByteArray := prog_14_method_120_code
def yX12_isRow : MethodName := ⟨RX12, "isRow", "(III)Z"⟩
abbrev cX12_layRow : ByteArray := prog_14_method_121_code
def yX12_layRow : MethodName := ⟨RX12, "layRow", "(II)I"⟩
abbrev cX12_row : ByteArray := prog_14_method_122_code
def yX12_row : MethodName := ⟨RX12, "row", "(III)I"⟩
abbrev cX12_between : ByteArray := prog_14_method_123_code
def yX12_between : MethodName := ⟨RX12, "between", "(IIZ)I"⟩
abbrev cX12_fewest : ByteArray := prog_14_method_124_code
def yX12_fewest : MethodName := ⟨RX12, "fewest", "(I)I"⟩
abbrev cX12_isCheaper : ByteArray := prog_14_method_125_code
def yX12_isCheaper : MethodName := ⟨RX12, "isCheaper", "(II)Z"⟩
abbrev cX12_cheapest : ByteArray := prog_14_method_126_code
def yX12_cheapest : MethodName := ⟨RX12, "cheapest", "(I)I"⟩
abbrev cX12_want : ByteArray := prog_14_method_127_code
def yX12_want : MethodName := ⟨RX12, "want", "(I)I"⟩
abbrev cX12_areParts : ByteArray := prog_14_method_128_code
def yX12_areParts : MethodName := ⟨RX12, "areParts", "(I)Z"⟩
abbrev cX12_isLower : ByteArray := prog_14_method_129_code
def yX12_isLower : MethodName := ⟨RX12, "isLower", "()Z"⟩
abbrev cX12_layBundle : ByteArray := prog_14_method_130_code
def yX12_layBundle : MethodName := ⟨RX12, "layBundle", "()I"⟩
abbrev cX12_bundle : ByteArray := prog_14_method_131_code
def yX12_bundle : MethodName := ⟨RX12, "bundle", "(Z)I"⟩
abbrev cX12_part : ByteArray := prog_14_method_132_code
def yX12_part : MethodName := ⟨RX12, "part", "(I)I"⟩
abbrev cX12_heldBy : ByteArray := prog_14_method_133_code
def yX12_heldBy : MethodName := ⟨RX12, "heldBy", "(II)I"⟩
abbrev cX12_turned : ByteArray := prog_14_method_134_code
def yX12_turned : MethodName := ⟨RX12, "turned", "(I)I"⟩
abbrev cX12_takenBy : ByteArray := prog_14_method_135_code
def yX12_takenBy : MethodName := ⟨RX12, "takenBy", "(III[I)I"⟩
abbrev cX12_bestOf : ByteArray := prog_14_method_136_code
def yX12_bestOf : MethodName := ⟨RX12, "bestOf", "(II[I)I"⟩
abbrev cX12_isCode : ByteArray := prog_14_method_137_code
def yX12_isCode : MethodName := ⟨RX12, "isCode", "(I)Z"⟩
abbrev cX12_layGames : ByteArray := prog_14_method_138_code
def yX12_layGames : MethodName := ⟨RX12, "layGames", "(II)V"⟩
abbrev cX12_crews : ByteArray := prog_14_method_139_code
def yX12_crews : MethodName := ⟨RX12, "crews", "(II)I"⟩
abbrev cX12_take : ByteArray := prog_14_method_140_code
def yX12_take : MethodName := ⟨RX12, "take", "(II)I"⟩
abbrev cX12_tried : ByteArray := prog_14_method_141_code
def yX12_tried : MethodName := ⟨RX12, "tried", "(IZ)I"⟩
abbrev cX12_isSuspect : ByteArray := prog_14_method_142_code
def yX12_isSuspect : MethodName := ⟨RX12, "isSuspect", "(I)Z"⟩
abbrev cX12_suspects : ByteArray := prog_14_method_143_code
def yX12_suspects : MethodName := ⟨RX12, "suspects", "(I)I"⟩
abbrev cX12_test : ByteArray := prog_14_method_144_code
def yX12_test : MethodName := ⟨RX12, "test", "()I"⟩
abbrev cX12_divisor : ByteArray := prog_14_method_145_code
def yX12_divisor : MethodName := ⟨RX12, "divisor", "(JJ)J"⟩
abbrev cX12_power : ByteArray := prog_14_method_146_code
def yX12_power : MethodName := ⟨RX12, "power", "(JI)J"⟩
abbrev cX12_share : ByteArray := prog_14_method_147_code
def yX12_share : MethodName := ⟨RX12, "share", "(JJZ)J"⟩
abbrev cX12_right : ByteArray := prog_14_method_148_code
def yX12_right : MethodName := ⟨RX12, "right", "(IIZ)J"⟩
abbrev cX12_tries : ByteArray := prog_14_method_149_code
def yX12_tries : MethodName := ⟨RX12, "tries", "(IIIZ)J"⟩
abbrev cX12_said : ByteArray := prog_14_method_150_code
def yX12_said : MethodName := ⟨RX12, "said", "(II)I"⟩
abbrev cX12_whose : ByteArray := prog_14_method_151_code
def yX12_whose : MethodName := ⟨RX12, "whose", "()I"⟩
abbrev cX12_image : ByteArray := prog_14_method_152_code
def yX12_image : MethodName := ⟨RX12, "image", "()I"⟩
abbrev cX12_back : ByteArray := prog_14_method_153_code
def yX12_back : MethodName := ⟨RX12, "back", "()I"⟩
abbrev cX12_about : ByteArray := prog_14_method_154_code
def yX12_about : MethodName := ⟨RX12, "about", "(I)I"⟩
def RJ11 : String := "java/lang/Character"
def TJ11 : u_T := fun k => match k with
  | _ => ("", "", "", false)
def tyJ11 : Nat → FieldType := fun k => match k with
  | _ => .int
abbrev cJ11_isValidCodePoint_9a6ad : ByteArray := prog_15_method_11_code
def yJ11_isValidCodePoint_9a6ad : MethodName := ⟨RJ11, "isValidCodePoint", "(I)Z"⟩
abbrev cJ11_highSurrogate_5068e : ByteArray := prog_15_method_28_code
def yJ11_highSurrogate_5068e : MethodName := ⟨RJ11, "highSurrogate", "(I)C"⟩
abbrev cJ11_lowSurrogate_5068e : ByteArray := prog_15_method_29_code
def yJ11_lowSurrogate_5068e : MethodName := ⟨RJ11, "lowSurrogate", "(I)C"⟩
def RJ6 : String := "java/lang/Integer"
def TJ6 : u_T := fun k => match k with
  | _ => ("", "", "", false)
def tyJ6 : Nat → FieldType := fun k => match k with
  | _ => .int
abbrev cJ6_bitCount_0f7a4 : ByteArray := prog_16_method_49_code
def yJ6_bitCount_0f7a4 : MethodName := ⟨RJ6, "bitCount", "(I)I"⟩
def RJ13 : String := "java/lang/Long"
def TJ13 : u_T := fun k => match k with
  | _ => ("", "", "", false)
def tyJ13 : Nat → FieldType := fun k => match k with
  | _ => .int
abbrev cJ13_bitCount_95d88 : ByteArray := prog_17_method_50_code
def yJ13_bitCount_95d88 : MethodName := ⟨RJ13, "bitCount", "(J)I"⟩
def RJ9 : String := "java/lang/Math"
def TJ9 : u_T := fun k => match k with
  | _ => ("", "", "", false)
def tyJ9 : Nat → FieldType := fun k => match k with
  | _ => .int
abbrev cJ9_abs_067f4 : ByteArray := prog_18_method_61_code
def yJ9_abs_067f4 : MethodName := ⟨RJ9, "abs", "(J)J"⟩
abbrev cJ9_max_7cf53 : ByteArray := prog_18_method_65_code
def yJ9_max_7cf53 : MethodName := ⟨RJ9, "max", "(II)I"⟩
abbrev cJ9_max_f86c9 : ByteArray := prog_18_method_66_code
def yJ9_max_f86c9 : MethodName := ⟨RJ9, "max", "(JJ)J"⟩
abbrev cJ9_min_7cf53 : ByteArray := prog_18_method_69_code
def yJ9_min_7cf53 : MethodName := ⟨RJ9, "min", "(II)I"⟩
abbrev cJ9_min_f86c9 : ByteArray := prog_18_method_70_code
def yJ9_min_f86c9 : MethodName := ⟨RJ9, "min", "(JJ)J"⟩
def RJ0 : String := "java/lang/String"
def TJ0 : u_T := fun k => match k with
  | _ => ("", "", "", false)
def tyJ0 : Nat → FieldType := fun k => match k with
  | _ => .int
abbrev cJ0_length_8abf5 : ByteArray := prog_19_method_54_code
def yJ0_length_8abf5 : MethodName := ⟨RJ0, "length", "()I"⟩
abbrev cJ0_charAt_5068e : ByteArray := prog_19_method_56_code
def yJ0_charAt_5068e : MethodName := ⟨RJ0, "charAt", "(I)C"⟩
abbrev cJ0_indexOf_0f7a4 : ByteArray := prog_19_method_79_code
def yJ0_indexOf_0f7a4 : MethodName := ⟨RJ0, "indexOf", "(I)I"⟩
abbrev cJ0_indexOf_7cf53 : ByteArray := prog_19_method_80_code
def yJ0_indexOf_7cf53 : MethodName := ⟨RJ0, "indexOf", "(II)I"⟩
abbrev cJ0_coder_7d493 : ByteArray := prog_19_method_152_code
def yJ0_coder_7d493 : MethodName := ⟨RJ0, "coder", "()B"⟩
abbrev cJ0_isLatin1_aae02 : ByteArray := prog_19_method_154_code
def yJ0_isLatin1_aae02 : MethodName := ⟨RJ0, "isLatin1", "()Z"⟩
abbrev cJ0_checkIndex_df160 : ByteArray := prog_19_method_155_code
def yJ0_checkIndex_df160 : MethodName := ⟨RJ0, "checkIndex", "(II)V"⟩
abbrev cJ0_checkBoundsBeginEnd_23922 : ByteArray := prog_19_method_158_code
def yJ0_checkBoundsBeginEnd_23922 : MethodName := ⟨RJ0, "checkBoundsBeginEnd", "(III)V"⟩
def RJ1 : String := "java/lang/StringLatin1"
def TJ1 : u_T := fun k => match k with
  | _ => ("", "", "", false)
def tyJ1 : Nat → FieldType := fun k => match k with
  | _ => .int
abbrev cJ1_charAt_3b067 : ByteArray := prog_20_method_2_code
def yJ1_charAt_3b067 : MethodName := ⟨RJ1, "charAt", "([BI)C"⟩
abbrev cJ1_canEncode_9a6ad : ByteArray := prog_20_method_4_code
def yJ1_canEncode_9a6ad : MethodName := ⟨RJ1, "canEncode", "(I)Z"⟩
abbrev cJ1_indexOf_4cfef : ByteArray := prog_20_method_22_code
def yJ1_indexOf_4cfef : MethodName := ⟨RJ1, "indexOf", "([BIII)I"⟩
abbrev cJ1_indexOfChar_4cfef : ByteArray := prog_20_method_23_code
def yJ1_indexOfChar_4cfef : MethodName := ⟨RJ1, "indexOfChar", "([BIII)I"⟩
def RJ2 : String := "java/lang/StringUTF16"
def TJ2 : u_T := fun k => match k with
  | _ => ("", "", "", false)
def tyJ2 : Nat → FieldType := fun k => match k with
  | _ => .int
abbrev cJ2_getChar_3b067 : ByteArray := prog_21_method_5_code
def yJ2_getChar_3b067 : MethodName := ⟨RJ2, "getChar", "([BI)C"⟩
abbrev cJ2_length_9d52b : ByteArray := prog_21_method_6_code
def yJ2_length_9d52b : MethodName := ⟨RJ2, "length", "([B)I"⟩
abbrev cJ2_indexOf_4cfef : ByteArray := prog_21_method_40_code
def yJ2_indexOf_4cfef : MethodName := ⟨RJ2, "indexOf", "([BIII)I"⟩
abbrev cJ2_indexOfChar_4cfef : ByteArray := prog_21_method_47_code
def yJ2_indexOfChar_4cfef : MethodName := ⟨RJ2, "indexOfChar", "([BIII)I"⟩
abbrev cJ2_indexOfCharUnsafe_4cfef : ByteArray := prog_21_method_48_code
def yJ2_indexOfCharUnsafe_4cfef : MethodName := ⟨RJ2, "indexOfCharUnsafe", "([BIII)I"⟩
abbrev cJ2_indexOfSupplementary_4cfef : ByteArray := prog_21_method_49_code
def yJ2_indexOfSupplementary_4cfef : MethodName := ⟨RJ2, "indexOfSupplementary", "([BIII)I"⟩
abbrev cJ2_charAt_3b067 : ByteArray := prog_21_method_83_code
def yJ2_charAt_3b067 : MethodName := ⟨RJ2, "charAt", "([BI)C"⟩
abbrev cJ2_checkIndex_2214a : ByteArray := prog_21_method_91_code
def yJ2_checkIndex_2214a : MethodName := ⟨RJ2, "checkIndex", "(I[B)V"⟩
abbrev cJ2_checkBoundsBeginEnd_d044e : ByteArray := prog_21_method_93_code
def yJ2_checkBoundsBeginEnd_d044e : MethodName := ⟨RJ2, "checkBoundsBeginEnd", "(II[B)V"⟩
def RJ10 : String := "java/lang/System"
def TJ10 : u_T := fun k => match k with
  | _ => ("", "", "", false)
def tyJ10 : Nat → FieldType := fun k => match k with
  | _ => .int
def RJ3 : String := "jdk/internal/util/Preconditions"
def TJ3 : u_T := fun k => match k with
  | _ => ("", "", "", false)
def tyJ3 : Nat → FieldType := fun k => match k with
  | _ => .int
abbrev cJ3_checkIndex_8e157 : ByteArray := prog_23_method_11_code
def yJ3_checkIndex_8e157 : MethodName := ⟨RJ3, "checkIndex", "(IILjava/util/function/BiFunction;)I"⟩
abbrev cJ3_checkFromToIndex_8c36e : ByteArray := prog_23_method_12_code
def yJ3_checkFromToIndex_8c36e : MethodName := ⟨RJ3, "checkFromToIndex", "(IIILjava/util/function/BiFunction;)I"⟩
def RL : String := "FuseMinutesLaw"
abbrev cL_law : ByteArray := code
def yL_law : MethodName := ⟨RL, "law", "([I)Z"⟩
end
section
/-! the cells of a run in the order in which they are made: kind (a class by its number, 20 int[], 21 long[], 22 boolean[], 23 Pit[], 24 Text[]) and length -/
def zsL : List (Nat × Nat) := [(9, 0), (5, 0), (1, 0), (20, 4), (20, 4), (20, 30), (4, 0), (23, 30), (1, 0), (20, 4), (20, 4), (20, 30), (1, 0), (20, 4), (20, 4), (20, 30), (1, 0), (20, 4), (20, 4), (20, 30), (1, 0), (20, 4), (20, 4), (20, 30), (1, 0), (20, 4), (20, 4), (20, 30), (1, 0), (20, 4), (20, 4), (20, 30), (1, 0), (20, 4), (20, 4), (20, 30), (1, 0), (20, 4), (20, 4), (20, 30), (1, 0), (20, 4), (20, 4), (20, 30), (1, 0), (20, 4), (20, 4), (20, 30), (1, 0), (20, 4), (20, 4), (20, 30), (1, 0), (20, 4), (20, 4), (20, 30), (1, 0), (20, 4), (20, 4), (20, 30), (1, 0), (20, 4), (20, 4), (20, 30), (1, 0), (20, 4), (20, 4), (20, 30), (1, 0), (20, 4), (20, 4), (20, 30), (1, 0), (20, 4), (20, 4), (20, 30), (1, 0), (20, 4), (20, 4), (20, 30), (1, 0), (20, 4), (20, 4), (20, 30), (1, 0), (20, 4), (20, 4), (20, 30), (1, 0), (20, 4), (20, 4), (20, 30), (1, 0), (20, 4), (20, 4), (20, 30), (1, 0), (20, 4), (20, 4), (20, 30), (1, 0), (20, 4), (20, 4), (20, 30), (1, 0), (20, 4), (20, 4), (20, 30), (1, 0), (20, 4), (20, 4), (20, 30), (1, 0), (20, 4), (20, 4), (20, 30), (1, 0), (20, 4), (20, 4), (20, 30), (1, 0), (20, 4), (20, 4), (20, 30), (1, 0), (20, 4), (20, 4), (20, 30), (20, 4), (20, 4), (8, 0), (20, 4), (8, 0), (20, 8), (8, 0), (20, 8), (5, 0), (1, 0), (20, 4), (20, 4), (20, 30), (4, 0), (23, 30), (1, 0), (20, 4), (20, 4), (20, 30), (1, 0), (20, 4), (20, 4), (20, 30), (1, 0), (20, 4), (20, 4), (20, 30), (1, 0), (20, 4), (20, 4), (20, 30), (1, 0), (20, 4), (20, 4), (20, 30), (1, 0), (20, 4), (20, 4), (20, 30), (1, 0), (20, 4), (20, 4), (20, 30), (1, 0), (20, 4), (20, 4), (20, 30), (1, 0), (20, 4), (20, 4), (20, 30), (1, 0), (20, 4), (20, 4), (20, 30), (1, 0), (20, 4), (20, 4), (20, 30), (1, 0), (20, 4), (20, 4), (20, 30), (1, 0), (20, 4), (20, 4), (20, 30), (1, 0), (20, 4), (20, 4), (20, 30), (1, 0), (20, 4), (20, 4), (20, 30), (1, 0), (20, 4), (20, 4), (20, 30), (1, 0), (20, 4), (20, 4), (20, 30), (1, 0), (20, 4), (20, 4), (20, 30), (1, 0), (20, 4), (20, 4), (20, 30), (1, 0), (20, 4), (20, 4), (20, 30), (1, 0), (20, 4), (20, 4), (20, 30), (1, 0), (20, 4), (20, 4), (20, 30), (1, 0), (20, 4), (20, 4), (20, 30), (1, 0), (20, 4), (20, 4), (20, 30), (1, 0), (20, 4), (20, 4), (20, 30), (1, 0), (20, 4), (20, 4), (20, 30), (1, 0), (20, 4), (20, 4), (20, 30), (1, 0), (20, 4), (20, 4), (20, 30), (1, 0), (20, 4), (20, 4), (20, 30), (1, 0), (20, 4), (20, 4), (20, 30), (20, 4), (20, 4), (8, 0), (20, 4), (8, 0), (20, 8), (8, 0), (20, 8), (2, 0), (20, 300), (24, 4), (6, 0), (20, 301), (3, 0), (21, 3856), (20, 20), (20, 20), (20, 20), (20, 5), (0, 0), (20, 4), (20, 4), (7, 0), (20, 24), (20, 24), (20, 24), (20, 300), (20, 2), (20, 2), (7, 0), (20, 24), (20, 24), (20, 24), (20, 300), (20, 2), (20, 2), (7, 0), (20, 24), (20, 24), (20, 24), (20, 300), (20, 2), (20, 2), (7, 0), (20, 24), (20, 24), (20, 24), (20, 300), (20, 2), (20, 2), (10, 0), (20, 1385), (20, 1385), (20, 2724), (20, 300), (20, 160), (20, 7), (21, 330), (22, 330), (20, 20), (20, 6), (20, 6), (20, 24), (20, 24), (22, 245776), (20, 16), (20, 5), (20, 5), (20, 256), (20, 256)]
def zs (k : Nat) : Nat × Nat := zsL.getD k (99, 0)
/-- how many fields a class has -/
def zn (ci : Nat) : Nat := ([4, 8, 11, 14, 3, 11, 4, 8, 2, 7, 37] : List Nat).getD ci 0
/-- what a field holds: 0 an int, 1 a long, 2 a reference -/
def ztL : List (List Nat) := [[2, 2, 0, 1], [0, 0, 0, 0, 2, 2, 2, 0], [2, 0, 0, 0, 0, 0, 0, 0, 0, 0, 2], [2, 0, 0, 2, 0, 0, 0, 2, 2, 2, 2, 0, 0, 0], [2, 0, 0], [2, 2, 2, 2, 0, 0, 0, 0, 2, 2, 2], [2, 2, 0, 0], [2, 2, 2, 0, 2, 0, 2, 2], [2, 0], [2, 2, 2, 2, 2, 2, 2], [2, 2, 2, 2, 0, 0, 0, 0, 0, 0, 0, 1, 0, 0, 0, 2, 0, 0, 0, 0, 2, 2, 2, 0, 0, 2, 2, 2, 2, 2, 2, 2, 0, 2, 2, 2, 2]]
def zt (ci j : Nat) : Nat := (ztL.getD ci []).getD j 9
end
section
/-! links to private members of the nest -/
def zNm : List (String × Nat × MethodName) := [("FuseMinutes", 11, ⟨"FuseMinutes$Store", "<init>", "()V"⟩), ("FuseMinutes$Store", 11, ⟨"FuseMinutes$Pit", "<init>", "()V"⟩), ("FuseMinutes$Steps", 17, ⟨"FuseMinutes$Pit", "<init>", "()V"⟩), ("FuseMinutes", 21, ⟨"FuseMinutes$Reader", "<init>", "()V"⟩), ("FuseMinutes", 56, ⟨"FuseMinutes$Bundles", "<init>", "()V"⟩), ("FuseMinutes", 61, ⟨"FuseMinutes$Text", "<init>", "()V"⟩), ("FuseMinutes$Reader", 90, ⟨"FuseMinutes", "within", "(III)Z"⟩), ("FuseMinutes$Rows", 38, ⟨"FuseMinutes", "isSpan", "(I)Z"⟩), ("FuseMinutes", 294, ⟨"FuseMinutes$Crews", "outcome", "(IIIII)I"⟩)]
def zNf : Cond := .fieldLinkNest "FuseMinutes$Rows" 79 "FuseMinutes" "THREES" "[I" "FuseMinutes"
/-! the two texts of the Reader -/
def zLen : List Nat := [126, 11]
def zByt : List (List Int32) := [[108, 105, 103, 104, 116, 115, 32, 102, 97, 105, 108, 115, 32, 99, 111, 114, 100, 32, 112, 114, 105, 99, 101, 32, 104, 97, 110, 100, 115, 32, 108, 101, 102, 116, 32, 114, 105, 103, 104, 116, 32, 115, 110, 117, 102, 102, 32, 114, 101, 110, 101, 119, 32, 98, 117, 114, 110, 32, 109, 105, 110, 117, 116, 101, 32, 116, 119, 111, 115, 32, 111, 117, 116, 32, 105, 102, 32, 116, 104, 101, 110, 32, 101, 108, 115, 101, 32, 101, 110, 100, 32, 111, 114, 32, 97, 110, 100, 32, 110, 111, 116, 32, 116, 105, 109, 101, 32, 114, 101, 115, 116, 32, 108, 111, 110, 103, 32, 108, 105, 116, 32, 115, 105, 100, 101, 32], [60, 62, 61, 35, 43, 45, 42, 47, 40, 41, 59]]
def zS0 : Nat := 151
def zTx0 : String := "lights fails cord price hands left right snuff renew burn minute twos out if then else end or and not time rest long lit side "
def zS1 : Nat := 169
def zTx1 : String := "<>=#+-*/();"
def slen (n : Nat) : Nat := zLen.getD n 0
def sbyt (n j : Nat) : Int32 := (zByt.getD n []).getD j 0
end
section
/-! The layer of the static heap: every object of the run is a numbered cell; a memory holds what the cells hold; Z is the kit's W over it. -/
/-- memory: ints, longs, references, by cell and place -/
abbrev Mm : Type := (Nat → Nat → Int32) × (Nat → Nat → Int64) × (Nat → Nat → Option Nat)
/-- launch, class numbers, addresses of the cells, array classes, where new cells begin, the script -/
abbrev GG : Type := Launch × va_G × (Nat → Nat) × (Nat → ClassId) × Nat × (Nat × (Nat → Int32))
abbrev gD (g : GG) : va_G := g.2.1
abbrev gA (g : GG) : Nat → Nat := g.2.2.1
abbrev gC (g : GG) : Nat → ClassId := g.2.2.2.1
abbrev gB (g : GG) : Nat := g.2.2.2.2.1
abbrev gN (g : GG) : Nat := g.2.2.2.2.2.1
abbrev gX (g : GG) : Nat → Int32 := g.2.2.2.2.2.2
/-- a method: name, bytes, locals, return type -/
abbrev MM : Type := MethodName × ByteArray × Nat × Option FieldType
abbrev mO (M : MM) : String := M.1.cls
abbrev mN (M : MM) : String := M.1.name
abbrev mB (M : MM) : ByteArray := M.2.1
abbrev mL (M : MM) : Nat := M.2.2.1
abbrev mR (M : MM) : Option FieldType := M.2.2.2
abbrev FF : Type := List Frame → Array Value → State → State → Prop
abbrev vwCl : List vw_C := [(RX0, TX0, 4), (RX2, TX2, 8), (RX3, TX3, 11), (RX4, TX4, 14), (RX5, TX5, 3), (RX6, TX6, 11), (RX7, TX7, 4), (RX9, TX9, 8), (RX10, TX10, 2), (RX11, TX11, 7), (RX12, TX12, 37)]
/-- a value with cells' numbers for references, as the machine has it -/
def tr (g : GG) (v : Value) : Value := match v with
  | .ref k => .ref (gA g k)
  | w => w
theorem tr_cat (g : GG) (v : Value) : (tr g v).category = v.category := by cases v <;> rfl
def zv (g : GG) (st : List Value) : List Value := st.map (tr g)
def zl (g : GG) (lv : List (Nat × Value)) : List (Nat × Value) := lv.map (fun q => (q.1, tr g q.2))
/-- what a place of an object holds: 0 an int, 1 a long, else a reference -/
def zV (g : GG) (ty : Nat) (μ : Mm) (k j : Nat) : Value := match ty with
  | 0 => .int (μ.1 k j)
  | 1 => .long (μ.2.1 k j)
  | _ => va_rf ((μ.2.2 k j).map (gA g))
def zf (g : GG) (μ : Mm) (k ci : Nat) : List Value := (List.range (zn ci)).map (fun j => zV g (zt ci j) μ k j)
def zE (g : GG) (μ : Mm) (k : Nat) : va_E :=
  if (zs k).1 = 20 then .inl (gC g 0, (zs k).2, .inl (μ.1 k))
  else if (zs k).1 = 21 then .inl (gC g 1, (zs k).2, .inr (.inl (μ.2.1 k)))
  else if (zs k).1 = 22 then .inl (gC g 2, (zs k).2, .inl (μ.1 k))
  else if (zs k).1 = 23 then .inl (gC g 3, (zs k).2, .inr (.inr (.inr (.inr (fun j => (μ.2.2 k j).map (gA g))))))
  else if (zs k).1 = 24 then .inl (gC g 4, (zs k).2, .inr (.inr (.inr (.inr (fun j => (μ.2.2 k j).map (gA g))))))
  else .inr ((zs k).1, zf g μ k (zs k).1)
def zW (g : GG) (n : Nat) (μ : Mm) : va_W := (List.range n).map (fun k => (gA g k, zE g μ k))
def zA (g : GG) : Nat → Prop := fun q => gB g ≤ q
abbrev zty (g : GG) : List (ClassId × FieldType) := [(gC g 0, .int), (gC g 1, .long), (gC g 2, .boolean), (gC g 3, .object RX2), (gC g 4, .object RX9)]
abbrev zR (g : GG) (n : Nat) (μ : Mm) (U : State) (H : Heap) : Prop := va_K (gD g) vwCl (zty g) U ∧ va_P (gD g) vwCl (zW g n μ) H ∧ va_D (zA g) (zW g n μ)
def zth (j : Nat) : Int32 := ([1, 3, 9, 27] : List Int32).getD j 0
/-- the words that last from a method to its callees -/
def zTb : List Cond := lw_tbl.filter goodWord
theorem zm {w : Cond} (i : Nat) (h : lw_tbl[i]? = some w) (hg : goodWord w = true) : w ∈ zTb := List.mem_filter.mpr ⟨List.mem_of_getElem? h, hg⟩
abbrev zNw (g : GG) (U : State) : Prop := (∀ q ∈ zNm, va_Nw (.methodLinkNest q.1 q.2.1 q.2.2 "FuseMinutes") U) ∧ va_Nw zNf U ∧ vk_R RX3 zS0 zTx0 (gA g 1002) U ∧ vk_R RX3 zS1 zTx1 (gA g 1003) U
/-- the texts' own cells (1002, 1003 the Strings, 1004, 1005 their bytes), what the JDK's statics hold (1006: a formatter) -/
abbrev zSt (g : GG) (U : State) (H : Heap) : Prop := vk_S 2 zLen zByt (fun i => gA g (1002 + i)) (fun i => gA g (1004 + i)) (zA g) U H ∧ va_Z RJ0 "COMPACT_STRINGS" "Z" (.int 1) (zA g) U H ∧ (va_Z RJ3 "SIOOBE_FORMATTER" "Ljava/util/function/BiFunction;" .null (zA g) U H ∨ va_Z RJ3 "SIOOBE_FORMATTER" "Ljava/util/function/BiFunction;" (.ref (gA g 1006)) (zA g) U H)
/-- what lies outside: the row THREES (1000), the script (1001), the texts -/
abbrev zX (g : GG) (U : State) (H : Heap) : Prop :=
  va_Z RX11 "THREES" "[I" (.ref (gA g 1000)) (zA g) U H ∧ va_T .int (gA g 1000) 4 (fun j => .int (zth j)) (zA g) U H ∧ va_X (gA g 1001) (gN g) (gX g) U H ∧ ¬ zA g (gA g 1001) ∧ zNw g U ∧ zSt g U H
abbrev zC (g : GG) (d : Nat) (N : Nat × Nat) (M : MM) (p : Program) (s : State) (m : MethodId) (args : Array Value) (meth : Method) (c : Code) (R : Room) : Prop :=
  p.tables.exec = Jvm.exec ∧ c.code = mB M ∧ meth.sig.returnType = mR M ∧ c.maxLocals = mL M ∧ s.vm.findClass (mO M) = some m.cls ∧ (∀ w ∈ zTb, w.before args s = true) ∧ meth.locks = false ∧ meth.name = mN M ∧ zX g s s.heap ∧ d ≤ R.frames ∧ 64 * d ≤ R.locals ∧ N.1 ≤ R.cells ∧ N.2 ≤ R.slots
/-- the machine at pc, with these locals, this stack and this memory, comes to F -/
def Z (g : GG) (d : Nat) (N : Nat × Nat) (M : MM) (n cl sl pc : Nat) (lv : List (Nat × Value)) (st : List Value) (μ : Mm) (F : FF) : Prop :=
  ∀ (p : Program) (e : Env) (s : State) (m : MethodId) (args : Array Value) (below : List Frame) (meth : Method) (c : Code) (R : Room) (H : Heap) (locs : List Loc) (ls : Array Slot),
    zC g d N M p s m args meth c R → zR g n μ s H → va_S (zA g) s.heap H locs → lv_has ls (mL M) (zl g lv) → W p g.1 e R s m args below meth c H locs cl sl (F below args s) (F0 m pc ls (zv g st))
-- cells of the world
theorem zW_get (g : GG) {n : Nat} (μ : Mm) {k : Nat} (h : k < n) : (zW g n μ)[k]? = some (gA g k, zE g μ k) := by
  simp [zW, h]
theorem zW_set (g : GG) {n : Nat} {μ μ' : Mm} {k : Nat} (h : k < n) {E : va_E} (hE : zE g μ' k = E) (ho : ∀ j, j ≠ k → zE g μ' j = zE g μ j) : (zW g n μ).set k (gA g k, E) = zW g n μ' := by
  apply List.ext_getElem?
  intro i
  by_cases hi : i = k
  · subst hi
    rw [zW_get g μ' h, List.getElem?_set_self (by simp [zW, h]), hE]
  · rw [List.getElem?_set_ne (Ne.symm hi)]
    by_cases hn : i < n
    · rw [zW_get g μ hn, zW_get g μ' hn, ho i hi]
    · simp [zW, hn]
/-- a cell's number and kind -/
def zk (n q : Nat) (t : Nat × Nat) : Prop := q < n ∧ zs q = t
theorem zE_i {g : GG} {n q L : Nat} (μ : Mm) (h : zk n q (20, L)) : zE g μ q = .inl (gC g 0, L, .inl (μ.1 q)) := by simp [zE, h.2]
theorem zE_l {g : GG} {n q L : Nat} (μ : Mm) (h : zk n q (21, L)) : zE g μ q = .inl (gC g 1, L, .inr (.inl (μ.2.1 q))) := by simp [zE, h.2]
theorem zE_z {g : GG} {n q L : Nat} (μ : Mm) (h : zk n q (22, L)) : zE g μ q = .inl (gC g 2, L, .inl (μ.1 q)) := by simp [zE, h.2]
theorem zE_p {g : GG} {n q L : Nat} (μ : Mm) (h : zk n q (23, L)) : zE g μ q = .inl (gC g 3, L, .inr (.inr (.inr (.inr (fun j => (μ.2.2 q j).map (gA g)))))) := by simp [zE, h.2]
theorem zE_t {g : GG} {n q L : Nat} (μ : Mm) (h : zk n q (24, L)) : zE g μ q = .inl (gC g 4, L, .inr (.inr (.inr (.inr (fun j => (μ.2.2 q j).map (gA g)))))) := by simp [zE, h.2]
theorem zE_o {g : GG} {n q ci : Nat} (μ : Mm) (h : zk n q (ci, 0)) (hc : ci < 11) : zE g μ q = .inr (ci, zf g μ q ci) := by
  have h2 := h.2
  simp only [zE, h2]
  rw [if_neg (by omega), if_neg (by omega), if_neg (by omega), if_neg (by omega), if_neg (by omega)]
-- changes of a memory
def zsi (μ : Mm) (q j : Nat) (v : Int32) : Mm := (va_up μ.1 q (upd (μ.1 q) j v), μ.2)
def zsl (μ : Mm) (q j : Nat) (v : Int64) : Mm := (μ.1, va_up μ.2.1 q (vp_updL (μ.2.1 q) j v), μ.2.2)
def zsr (μ : Mm) (q j : Nat) (v : Option Nat) : Mm := (μ.1, μ.2.1, va_up μ.2.2 q (va_up (μ.2.2 q) j v))
theorem zE_ne {g : GG} {μ μ' : Mm} {j : Nat} (h1 : μ'.1 j = μ.1 j) (h2 : μ'.2.1 j = μ.2.1 j) (h3 : μ'.2.2 j = μ.2.2 j) : zE g μ' j = zE g μ j := by
  have hV : ∀ ty i, zV g ty μ' j i = zV g ty μ j i := fun ty i => by
    unfold zV; rw [h1, h2, h3]
  have hf : ∀ ci, zf g μ' j ci = zf g μ j ci := fun ci => by
    unfold zf; simp only [hV]
  unfold zE
  rw [h1, h2, h3, hf]
theorem zsi_ne {g : GG} {μ : Mm} {q i : Nat} {v : Int32} : ∀ j, j ≠ q → zE g (zsi μ q i v) j = zE g μ j := fun j h => zE_ne (by simp [zsi, va_up, h]) rfl rfl
theorem zsl_ne {g : GG} {μ : Mm} {q i : Nat} {v : Int64} : ∀ j, j ≠ q → zE g (zsl μ q i v) j = zE g μ j := fun j h => zE_ne rfl (by simp [zsl, va_up, h]) rfl
theorem zsr_ne {g : GG} {μ : Mm} {q i : Nat} {v : Option Nat} : ∀ j, j ≠ q → zE g (zsr μ q i v) j = zE g μ j := fun j h => zE_ne rfl rfl (by simp [zsr, va_up, h])
theorem zf_len (g : GG) (μ : Mm) (q ci : Nat) : (zf g μ q ci).length = zn ci := by simp [zf]
theorem zf_get (g : GG) (μ : Mm) (q ci : Nat) {j : Nat} (h : j < zn ci) : (zf g μ q ci)[j]? = some (zV g (zt ci j) μ q j) := by simp [zf, h]
theorem zf_set {g : GG} {μ μ' : Mm} {q ci j : Nat} {v : Value} (hv : zV g (zt ci j) μ' q j = v) (ho : ∀ i, i ≠ j → zV g (zt ci i) μ' q i = zV g (zt ci i) μ q i) (hj : j < zn ci) : (zf g μ q ci).set j v = zf g μ' q ci := by
  apply List.ext_getElem?
  intro i
  by_cases hi : i = j
  · subst hi
    rw [zf_get g μ' q ci hj, List.getElem?_set_self (by rw [zf_len]; exact hj), hv]
  · rw [List.getElem?_set_ne (Ne.symm hi)]
    by_cases hn : i < zn ci
    · rw [zf_get g μ q ci hn, zf_get g μ' q ci hn, ho i hi]
    · simp [zf, hn]
theorem zR_set {g : GG} {n : Nat} {μ μ' : Mm} {U : State} {H1 : Heap} {k : Nat} {E : va_E} (hK : va_K (gD g) vwCl (zty g) U) (hk : k < n) (hE : zE g μ' k = E) (ho : ∀ j, j ≠ k → zE g μ' j = zE g μ j) (hP : va_P (gD g) vwCl ((zW g n μ).set k (gA g k, E)) H1) (hD : va_D (zA g) ((zW g n μ).set k (gA g k, E))) : zR g n μ' U H1 := by
  rw [zW_set g hk hE ho] at hP hD
  exact ⟨hK, hP, hD⟩
end
section
/-! The rows of the layer: an instruction, a row. -/
section ZS
variable {g : GG} {d : Nat} {N : Nat × Nat} {M : MM} {n cl sl pc : Nat} {lv lv2 : List (Nat × Value)} {st : List Value} {μ : Mm} {F : FF}
theorem zl_at {j i : Nat} {v : Value} (g : GG) (h : lv[j]? = some (i, v)) : (zl g lv)[j]? = some (i, tr g v) := by simp [zl, h]
theorem zl_st (g : GG) (i : Nat) (v : Value) (P : Nat → Nat → Bool) : zl g ((i, v) :: lv.filter (fun q => P q.1 q.2.category)) = (i, tr g v) :: (zl g lv).filter (fun q => P q.1 q.2.category) := by
  simp only [zl, List.map_cons, List.filter_map, Function.comp_def, tr_cat]
theorem z_iconst {i : Int} {v : Int32} (hd : decode (mB M) pc = .ok (.iconst i, 1)) (hv : Int32.ofInt i = v) (k : Z g d N M n cl sl (pc + 1) lv (.int v :: st) μ F) : Z g d N M n cl sl pc lv st μ F := fun p e s m args below meth c R H locs ls C Rl S L => lv_iconst C.1 C.2.1 hd hv (k p e s m args below meth c R H locs ls C Rl S L)
theorem z_bipush {i : Int} {v : Int32} (hd : decode (mB M) pc = .ok (.bipush i, 2)) (hv : (Int8.ofInt i).toInt32 = v) (k : Z g d N M n cl sl (pc + 2) lv (.int v :: st) μ F) : Z g d N M n cl sl pc lv st μ F := fun p e s m args below meth c R H locs ls C Rl S L => lv_bipush C.1 C.2.1 hd hv (k p e s m args below meth c R H locs ls C Rl S L)
theorem z_sipush {i : Int} {v : Int32} (hd : decode (mB M) pc = .ok (.sipush i, 3)) (hv : (Int16.ofInt i).toInt32 = v) (k : Z g d N M n cl sl (pc + 3) lv (.int v :: st) μ F) : Z g d N M n cl sl pc lv st μ F := fun p e s m args below meth c R H locs ls C Rl S L => lv_sipush C.1 C.2.1 hd hv (k p e s m args below meth c R H locs ls C Rl S L)
theorem z_lconst {i : Fin 2} {v : Int64} (hd : decode (mB M) pc = .ok (.lconst i, 1)) (hv : Int64.ofNat i = v) (k : Z g d N M n cl sl (pc + 1) lv (.long v :: st) μ F) : Z g d N M n cl sl pc lv st μ F := fun p e s m args below meth c R H locs ls C Rl S L => lv_lconst C.1 C.2.1 hd hv (k p e s m args below meth c R H locs ls C Rl S L)
theorem z_ldc {i : Nat} {v : Int32} (hd : decode (mB M) pc = .ok (.ldc i, 2)) (hw : Cond.constant (mO M) i v ∈ zTb) (k : Z g d N M n cl sl (pc + 2) lv (.int v :: st) μ F) : Z g d N M n cl sl pc lv st μ F := fun p e s m args below meth c R H locs ls C Rl S L => lv_ldc C.1 C.2.1 C.2.2.2.2.1 (C.2.2.2.2.2.1 _ hw) hd (k p e s m args below meth c R H locs ls C Rl S L)
theorem z_ldcw {i : Nat} {v : Int32} (hd : decode (mB M) pc = .ok (.ldc_w i, 3)) (hw : Cond.constant (mO M) i v ∈ zTb) (k : Z g d N M n cl sl (pc + 3) lv (.int v :: st) μ F) : Z g d N M n cl sl pc lv st μ F := fun p e s m args below meth c R H locs ls C Rl S L => lv_ldcw C.1 C.2.1 C.2.2.2.2.1 (C.2.2.2.2.2.1 _ hw) hd (k p e s m args below meth c R H locs ls C Rl S L)
theorem z_ldc2 {i : Nat} {v : Int64} (hd : decode (mB M) pc = .ok (.ldc2_w i, 3)) (hw : Cond.constantLong (mO M) i v ∈ zTb) (k : Z g d N M n cl sl (pc + 3) lv (.long v :: st) μ F) : Z g d N M n cl sl pc lv st μ F := fun p e s m args below meth c R H locs ls C Rl S L => lv_ldc2 C.1 C.2.1 C.2.2.2.2.1 (C.2.2.2.2.2.1 _ hw) hd (k p e s m args below meth c R H locs ls C Rl S L)
theorem z_iload_n {i : Fin 4} {x : Int32} (hd : decode (mB M) pc = .ok (.iload_n i, 1)) (j : Nat) (hj : lv[j]? = some ((i : Nat), .int x)) (k : Z g d N M n cl sl (pc + 1) lv (.int x :: st) μ F) : Z g d N M n cl sl pc lv st μ F := fun p e s m args below meth c R H locs ls C Rl S L => lv_iload_n C.1 C.2.1 hd rfl (lv_at L j (zl_at g hj)) (k p e s m args below meth c R H locs ls C Rl S L)
theorem z_iload {i : Nat} {x : Int32} (hd : decode (mB M) pc = .ok (.iload i, 2)) (j : Nat) (hj : lv[j]? = some (i, .int x)) (k : Z g d N M n cl sl (pc + 2) lv (.int x :: st) μ F) : Z g d N M n cl sl pc lv st μ F := fun p e s m args below meth c R H locs ls C Rl S L => lv_iload C.1 C.2.1 hd (lv_at L j (zl_at g hj)) (k p e s m args below meth c R H locs ls C Rl S L)
theorem z_lload_n {i : Fin 4} {x : Int64} (hd : decode (mB M) pc = .ok (.lload_n i, 1)) (j : Nat) (hj : lv[j]? = some ((i : Nat), .long x)) (k : Z g d N M n cl sl (pc + 1) lv (.long x :: st) μ F) : Z g d N M n cl sl pc lv st μ F := fun p e s m args below meth c R H locs ls C Rl S L => lv_lload_n C.1 C.2.1 hd rfl (lv_at L j (zl_at g hj)) (k p e s m args below meth c R H locs ls C Rl S L)
theorem z_lload {i : Nat} {x : Int64} (hd : decode (mB M) pc = .ok (.lload i, 2)) (j : Nat) (hj : lv[j]? = some (i, .long x)) (k : Z g d N M n cl sl (pc + 2) lv (.long x :: st) μ F) : Z g d N M n cl sl pc lv st μ F := fun p e s m args below meth c R H locs ls C Rl S L => lv_lload C.1 C.2.1 hd (lv_at L j (zl_at g hj)) (k p e s m args below meth c R H locs ls C Rl S L)
theorem z_aload_n {i : Fin 4} {x : Nat} (hd : decode (mB M) pc = .ok (.aload_n i, 1)) (j : Nat) (hj : lv[j]? = some ((i : Nat), .ref x)) (k : Z g d N M n cl sl (pc + 1) lv (.ref x :: st) μ F) : Z g d N M n cl sl pc lv st μ F := fun p e s m args below meth c R H locs ls C Rl S L => lv_aload_n C.1 C.2.1 hd rfl (lv_at L j (zl_at g hj)) (k p e s m args below meth c R H locs ls C Rl S L)
theorem z_aload {i : Nat} {x : Nat} (hd : decode (mB M) pc = .ok (.aload i, 2)) (j : Nat) (hj : lv[j]? = some (i, .ref x)) (k : Z g d N M n cl sl (pc + 2) lv (.ref x :: st) μ F) : Z g d N M n cl sl pc lv st μ F := fun p e s m args below meth c R H locs ls C Rl S L => lv_aload C.1 C.2.1 hd (lv_at L j (zl_at g hj)) (k p e s m args below meth c R H locs ls C Rl S L)
theorem z_istore_n {i : Fin 4} {x : Int32} (hd : decode (mB M) pc = .ok (.istore_n i, 1)) (hn : (i : Nat) < mL M) (hl : ((i : Nat), Value.int x) :: lv.filter (fun q => !(q.1 == (i : Nat)) && !(q.1 + 1 == (i : Nat) && q.2.category == 2)) = lv2) (k : Z g d N M n cl sl (pc + 1) lv2 st μ F) : Z g d N M n cl sl pc lv (.int x :: st) μ F := fun p e s m args below meth c R H locs ls C Rl S L => lv_istore_n C.1 C.2.1 hd rfl L hn rfl (fun ls2 L2 => k p e s m args below meth c R H locs ls2 C Rl S (by rw [← hl, zl_st g _ _ (fun a b => !(a == (i : Nat)) && !(a + 1 == (i : Nat) && b == 2))]; exact L2))
theorem z_istore {i : Nat} {x : Int32} (hd : decode (mB M) pc = .ok (.istore i, 2)) (hn : i < mL M) (hl : (i, Value.int x) :: lv.filter (fun q => !(q.1 == i) && !(q.1 + 1 == i && q.2.category == 2)) = lv2) (k : Z g d N M n cl sl (pc + 2) lv2 st μ F) : Z g d N M n cl sl pc lv (.int x :: st) μ F := fun p e s m args below meth c R H locs ls C Rl S L => lv_istore C.1 C.2.1 hd L hn rfl (fun ls2 L2 => k p e s m args below meth c R H locs ls2 C Rl S (by rw [← hl, zl_st g _ _ (fun a b => !(a == i) && !(a + 1 == i && b == 2))]; exact L2))
theorem z_lstore_n {i : Fin 4} {x : Int64} (hd : decode (mB M) pc = .ok (.lstore_n i, 1)) (hn : (i : Nat) + 1 < mL M) (hl : ((i : Nat), Value.long x) :: lv.filter (fun q => !(q.1 == (i : Nat)) && (!(q.1 == (i : Nat) + 1) && !(q.1 + 1 == (i : Nat) && q.2.category == 2))) = lv2) (k : Z g d N M n cl sl (pc + 1) lv2 st μ F) : Z g d N M n cl sl pc lv (.long x :: st) μ F := fun p e s m args below meth c R H locs ls C Rl S L => lv_lstore_n C.1 C.2.1 hd rfl L hn rfl (fun ls2 L2 => k p e s m args below meth c R H locs ls2 C Rl S (by rw [← hl, zl_st g _ _ (fun a b => !(a == (i : Nat)) && (!(a == (i : Nat) + 1) && !(a + 1 == (i : Nat) && b == 2)))]; exact L2))
theorem z_lstore {i : Nat} {x : Int64} (hd : decode (mB M) pc = .ok (.lstore i, 2)) (hn : i + 1 < mL M) (hl : (i, Value.long x) :: lv.filter (fun q => !(q.1 == i) && (!(q.1 == i + 1) && !(q.1 + 1 == i && q.2.category == 2))) = lv2) (k : Z g d N M n cl sl (pc + 2) lv2 st μ F) : Z g d N M n cl sl pc lv (.long x :: st) μ F := fun p e s m args below meth c R H locs ls C Rl S L => lv_lstore C.1 C.2.1 hd L hn rfl (fun ls2 L2 => k p e s m args below meth c R H locs ls2 C Rl S (by rw [← hl, zl_st g _ _ (fun a b => !(a == i) && (!(a == i + 1) && !(a + 1 == i && b == 2)))]; exact L2))
theorem z_astore_n {i : Fin 4} {x : Nat} (hd : decode (mB M) pc = .ok (.astore_n i, 1)) (hn : (i : Nat) < mL M) (hl : ((i : Nat), Value.ref x) :: lv.filter (fun q => !(q.1 == (i : Nat)) && !(q.1 + 1 == (i : Nat) && q.2.category == 2)) = lv2) (k : Z g d N M n cl sl (pc + 1) lv2 st μ F) : Z g d N M n cl sl pc lv (.ref x :: st) μ F := fun p e s m args below meth c R H locs ls C Rl S L => lv_astore_n C.1 C.2.1 hd rfl L hn rfl (fun ls2 L2 => k p e s m args below meth c R H locs ls2 C Rl S (by rw [← hl, zl_st g _ _ (fun a b => !(a == (i : Nat)) && !(a + 1 == (i : Nat) && b == 2))]; exact L2))
theorem z_astore {i : Nat} {x : Nat} (hd : decode (mB M) pc = .ok (.astore i, 2)) (hn : i < mL M) (hl : (i, Value.ref x) :: lv.filter (fun q => !(q.1 == i) && !(q.1 + 1 == i && q.2.category == 2)) = lv2) (k : Z g d N M n cl sl (pc + 2) lv2 st μ F) : Z g d N M n cl sl pc lv (.ref x :: st) μ F := fun p e s m args below meth c R H locs ls C Rl S L => lv_astore C.1 C.2.1 hd L hn rfl (fun ls2 L2 => k p e s m args below meth c R H locs ls2 C Rl S (by rw [← hl, zl_st g _ _ (fun a b => !(a == i) && !(a + 1 == i && b == 2))]; exact L2))
theorem z_iinc {i : Nat} {t : Int} {x v : Int32} (hd : decode (mB M) pc = .ok (.iinc i t, 3)) (j : Nat) (hj : lv[j]? = some (i, .int x)) (hv : x + Int32.ofInt t = v) (hn : i < mL M) (hl : (i, Value.int v) :: lv.filter (fun q => !(q.1 == i) && !(q.1 + 1 == i && q.2.category == 2)) = lv2) (k : Z g d N M n cl sl (pc + 3) lv2 st μ F) : Z g d N M n cl sl pc lv st μ F := fun p e s m args below meth c R H locs ls C Rl S L => lv_iinc C.1 C.2.1 hd L (k := j) (zl_at g hj) hv hn rfl (fun ls2 L2 => k p e s m args below meth c R H locs ls2 C Rl S (by rw [← hl, zl_st g _ _ (fun a b => !(a == i) && !(a + 1 == i && b == 2))]; exact L2))
theorem z_iadd {x : Int32} {y : Int32} (hd : decode (mB M) pc = .ok (.iadd, 1))  (k : Z g d N M n cl sl (pc + 1) lv (.int (x + y) :: st) μ F) : Z g d N M n cl sl pc lv (.int y :: .int x :: st) μ F := fun p e s m args below meth c R H locs ls C Rl S L => lv_iadd C.1 C.2.1 hd   (k p e s m args below meth c R H locs ls C Rl S L)
theorem z_isub {x : Int32} {y : Int32} (hd : decode (mB M) pc = .ok (.isub, 1))  (k : Z g d N M n cl sl (pc + 1) lv (.int (x - y) :: st) μ F) : Z g d N M n cl sl pc lv (.int y :: .int x :: st) μ F := fun p e s m args below meth c R H locs ls C Rl S L => lv_isub C.1 C.2.1 hd   (k p e s m args below meth c R H locs ls C Rl S L)
theorem z_imul {x : Int32} {y : Int32} (hd : decode (mB M) pc = .ok (.imul, 1))  (k : Z g d N M n cl sl (pc + 1) lv (.int (x * y) :: st) μ F) : Z g d N M n cl sl pc lv (.int y :: .int x :: st) μ F := fun p e s m args below meth c R H locs ls C Rl S L => lv_imul C.1 C.2.1 hd   (k p e s m args below meth c R H locs ls C Rl S L)
theorem z_iand {x : Int32} {y : Int32} (hd : decode (mB M) pc = .ok (.iand, 1))  (k : Z g d N M n cl sl (pc + 1) lv (.int (x &&& y) :: st) μ F) : Z g d N M n cl sl pc lv (.int y :: .int x :: st) μ F := fun p e s m args below meth c R H locs ls C Rl S L => lv_iand C.1 C.2.1 hd   (k p e s m args below meth c R H locs ls C Rl S L)
theorem z_ior {x : Int32} {y : Int32} (hd : decode (mB M) pc = .ok (.ior, 1))  (k : Z g d N M n cl sl (pc + 1) lv (.int (x ||| y) :: st) μ F) : Z g d N M n cl sl pc lv (.int y :: .int x :: st) μ F := fun p e s m args below meth c R H locs ls C Rl S L => lv_ior C.1 C.2.1 hd   (k p e s m args below meth c R H locs ls C Rl S L)
theorem z_ixor {x : Int32} {y : Int32} (hd : decode (mB M) pc = .ok (.ixor, 1))  (k : Z g d N M n cl sl (pc + 1) lv (.int (x ^^^ y) :: st) μ F) : Z g d N M n cl sl pc lv (.int y :: .int x :: st) μ F := fun p e s m args below meth c R H locs ls C Rl S L => lv_ixor C.1 C.2.1 hd   (k p e s m args below meth c R H locs ls C Rl S L)
theorem z_ishl {x : Int32} {y : Int32} (hd : decode (mB M) pc = .ok (.ishl, 1))  (k : Z g d N M n cl sl (pc + 1) lv (.int (x <<< (y &&& 31)) :: st) μ F) : Z g d N M n cl sl pc lv (.int y :: .int x :: st) μ F := fun p e s m args below meth c R H locs ls C Rl S L => lv_ishl C.1 C.2.1 hd   (k p e s m args below meth c R H locs ls C Rl S L)
theorem z_ishr {x : Int32} {y : Int32} (hd : decode (mB M) pc = .ok (.ishr, 1))  (k : Z g d N M n cl sl (pc + 1) lv (.int (x >>> (y &&& 31)) :: st) μ F) : Z g d N M n cl sl pc lv (.int y :: .int x :: st) μ F := fun p e s m args below meth c R H locs ls C Rl S L => lv_ishr C.1 C.2.1 hd   (k p e s m args below meth c R H locs ls C Rl S L)
theorem z_idiv {x : Int32} {y : Int32} (hd : decode (mB M) pc = .ok (.idiv, 1)) (hne : ¬ y = 0) (k : Z g d N M n cl sl (pc + 1) lv (.int (x / y) :: st) μ F) : Z g d N M n cl sl pc lv (.int y :: .int x :: st) μ F := fun p e s m args below meth c R H locs ls C Rl S L => lv_idiv C.1 C.2.1 hd hne  (k p e s m args below meth c R H locs ls C Rl S L)
theorem z_irem {x : Int32} {y : Int32} (hd : decode (mB M) pc = .ok (.irem, 1)) (hne : ¬ y = 0) (k : Z g d N M n cl sl (pc + 1) lv (.int (x - x / y * y) :: st) μ F) : Z g d N M n cl sl pc lv (.int y :: .int x :: st) μ F := fun p e s m args below meth c R H locs ls C Rl S L => lv_irem C.1 C.2.1 hd hne  (k p e s m args below meth c R H locs ls C Rl S L)
theorem z_ladd {x : Int64} {y : Int64} (hd : decode (mB M) pc = .ok (.ladd, 1))  (k : Z g d N M n cl sl (pc + 1) lv (.long (x + y) :: st) μ F) : Z g d N M n cl sl pc lv (.long y :: .long x :: st) μ F := fun p e s m args below meth c R H locs ls C Rl S L => lv_ladd C.1 C.2.1 hd   (k p e s m args below meth c R H locs ls C Rl S L)
theorem z_lsub {x : Int64} {y : Int64} (hd : decode (mB M) pc = .ok (.lsub, 1))  (k : Z g d N M n cl sl (pc + 1) lv (.long (x - y) :: st) μ F) : Z g d N M n cl sl pc lv (.long y :: .long x :: st) μ F := fun p e s m args below meth c R H locs ls C Rl S L => lv_lsub C.1 C.2.1 hd   (k p e s m args below meth c R H locs ls C Rl S L)
theorem z_lmul {x : Int64} {y : Int64} (hd : decode (mB M) pc = .ok (.lmul, 1))  (k : Z g d N M n cl sl (pc + 1) lv (.long (x * y) :: st) μ F) : Z g d N M n cl sl pc lv (.long y :: .long x :: st) μ F := fun p e s m args below meth c R H locs ls C Rl S L => lv_lmul C.1 C.2.1 hd   (k p e s m args below meth c R H locs ls C Rl S L)
theorem z_land {x : Int64} {y : Int64} (hd : decode (mB M) pc = .ok (.land, 1))  (k : Z g d N M n cl sl (pc + 1) lv (.long (x &&& y) :: st) μ F) : Z g d N M n cl sl pc lv (.long y :: .long x :: st) μ F := fun p e s m args below meth c R H locs ls C Rl S L => lv_land C.1 C.2.1 hd   (k p e s m args below meth c R H locs ls C Rl S L)
theorem z_lor {x : Int64} {y : Int64} (hd : decode (mB M) pc = .ok (.lor, 1))  (k : Z g d N M n cl sl (pc + 1) lv (.long (x ||| y) :: st) μ F) : Z g d N M n cl sl pc lv (.long y :: .long x :: st) μ F := fun p e s m args below meth c R H locs ls C Rl S L => lv_lor C.1 C.2.1 hd   (k p e s m args below meth c R H locs ls C Rl S L)
theorem z_ldiv {x : Int64} {y : Int64} (hd : decode (mB M) pc = .ok (.ldiv, 1)) (hne : ¬ y = 0) (k : Z g d N M n cl sl (pc + 1) lv (.long (x / y) :: st) μ F) : Z g d N M n cl sl pc lv (.long y :: .long x :: st) μ F := fun p e s m args below meth c R H locs ls C Rl S L => lv_ldiv C.1 C.2.1 hd hne  (k p e s m args below meth c R H locs ls C Rl S L)
theorem z_lrem {x : Int64} {y : Int64} (hd : decode (mB M) pc = .ok (.lrem, 1)) (hne : ¬ y = 0) (k : Z g d N M n cl sl (pc + 1) lv (.long (x - x / y * y) :: st) μ F) : Z g d N M n cl sl pc lv (.long y :: .long x :: st) μ F := fun p e s m args below meth c R H locs ls C Rl S L => lv_lrem C.1 C.2.1 hd hne  (k p e s m args below meth c R H locs ls C Rl S L)
theorem z_iushr {x : Int32} {y : Int32} (hd : decode (mB M) pc = .ok (.iushr, 1))  (k : Z g d N M n cl sl (pc + 1) lv (.int ((x.toUInt32 >>> (y.toUInt32 &&& Int32.toUInt32 31)).toInt32) :: st) μ F) : Z g d N M n cl sl pc lv (.int y :: .int x :: st) μ F := fun p e s m args below meth c R H locs ls C Rl S L => lv_iushr C.1 C.2.1 hd  rfl (k p e s m args below meth c R H locs ls C Rl S L)
theorem z_lshl {x : Int64} {y : Int32} (hd : decode (mB M) pc = .ok (.lshl, 1))  (k : Z g d N M n cl sl (pc + 1) lv (.long (x <<< (y.toInt64 &&& 63)) :: st) μ F) : Z g d N M n cl sl pc lv (.int y :: .long x :: st) μ F := fun p e s m args below meth c R H locs ls C Rl S L => lv_lshl C.1 C.2.1 hd  rfl (k p e s m args below meth c R H locs ls C Rl S L)
theorem z_lshr {x : Int64} {y : Int32} (hd : decode (mB M) pc = .ok (.lshr, 1))  (k : Z g d N M n cl sl (pc + 1) lv (.long (x >>> (y.toInt64 &&& 63)) :: st) μ F) : Z g d N M n cl sl pc lv (.int y :: .long x :: st) μ F := fun p e s m args below meth c R H locs ls C Rl S L => lv_lshr C.1 C.2.1 hd  rfl (k p e s m args below meth c R H locs ls C Rl S L)
theorem z_lushr {x : Int64} {y : Int32} (hd : decode (mB M) pc = .ok (.lushr, 1))  (k : Z g d N M n cl sl (pc + 1) lv (.long ((x.toUInt64 >>> (y.toInt64.toUInt64 &&& Int64.toUInt64 63)).toInt64) :: st) μ F) : Z g d N M n cl sl pc lv (.int y :: .long x :: st) μ F := fun p e s m args below meth c R H locs ls C Rl S L => lv_lushr C.1 C.2.1 hd  rfl (k p e s m args below meth c R H locs ls C Rl S L)
theorem z_lcmp {x y : Int64} (hd : decode (mB M) pc = .ok (.lcmp, 1)) (k : Z g d N M n cl sl (pc + 1) lv (.int (lg_cmp x y) :: st) μ F) : Z g d N M n cl sl pc lv (.long y :: .long x :: st) μ F := fun p e s m args below meth c R H locs ls C Rl S L => W.lcmp C.1 C.2.1 hd (k p e s m args below meth c R H locs ls C Rl S L)
theorem z_ineg {x : Int32} (hd : decode (mB M) pc = .ok (.ineg, 1)) (k : Z g d N M n cl sl (pc + 1) lv (.int (-x) :: st) μ F) : Z g d N M n cl sl pc lv (.int x :: st) μ F := fun p e s m args below meth c R H locs ls C Rl S L => lv_ineg C.1 C.2.1 hd  (k p e s m args below meth c R H locs ls C Rl S L)
theorem z_lneg {x : Int64} (hd : decode (mB M) pc = .ok (.lneg, 1)) (k : Z g d N M n cl sl (pc + 1) lv (.long (-x) :: st) μ F) : Z g d N M n cl sl pc lv (.long x :: st) μ F := fun p e s m args below meth c R H locs ls C Rl S L => lv_lneg C.1 C.2.1 hd  (k p e s m args below meth c R H locs ls C Rl S L)
theorem z_i2l {x : Int32} (hd : decode (mB M) pc = .ok (.i2l, 1)) (k : Z g d N M n cl sl (pc + 1) lv (.long (x.toInt64) :: st) μ F) : Z g d N M n cl sl pc lv (.int x :: st) μ F := fun p e s m args below meth c R H locs ls C Rl S L => lv_i2l C.1 C.2.1 hd rfl (k p e s m args below meth c R H locs ls C Rl S L)
theorem z_l2i {x : Int64} (hd : decode (mB M) pc = .ok (.l2i, 1)) (k : Z g d N M n cl sl (pc + 1) lv (.int (x.toInt32) :: st) μ F) : Z g d N M n cl sl pc lv (.long x :: st) μ F := fun p e s m args below meth c R H locs ls C Rl S L => lv_l2i C.1 C.2.1 hd rfl (k p e s m args below meth c R H locs ls C Rl S L)
theorem z_i2c {x : Int32} (hd : decode (mB M) pc = .ok (.i2c, 1)) (k : Z g d N M n cl sl (pc + 1) lv (.int ((x.toUInt32 % 65536).toInt32) :: st) μ F) : Z g d N M n cl sl pc lv (.int x :: st) μ F := fun p e s m args below meth c R H locs ls C Rl S L => lv_i2c C.1 C.2.1 hd rfl (k p e s m args below meth c R H locs ls C Rl S L)
theorem z_i2b {x : Int32} (hd : decode (mB M) pc = .ok (.i2b, 1)) (k : Z g d N M n cl sl (pc + 1) lv (.int (x.toInt8.toInt32) :: st) μ F) : Z g d N M n cl sl pc lv (.int x :: st) μ F := fun p e s m args below meth c R H locs ls C Rl S L => lv_i2b C.1 C.2.1 hd rfl (k p e s m args below meth c R H locs ls C Rl S L)
theorem z_dup {v : Value} (hd : decode (mB M) pc = .ok (.dup, 1)) (hc : v.category = 1) (k : Z g d N M n cl sl (pc + 1) lv (v :: v :: st) μ F) : Z g d N M n cl sl pc lv (v :: st) μ F := fun p e s m args below meth c R H locs ls C Rl S L => lv_dup C.1 C.2.1 hd ((tr_cat g v).trans hc) (k p e s m args below meth c R H locs ls C Rl S L)
theorem z_pop {v : Value} (hd : decode (mB M) pc = .ok (.pop, 1)) (hc : v.category = 1) (k : Z g d N M n cl sl (pc + 1) lv st μ F) : Z g d N M n cl sl pc lv (v :: st) μ F := fun p e s m args below meth c R H locs ls C Rl S L => lv_pop C.1 C.2.1 hd ((tr_cat g v).trans hc) (k p e s m args below meth c R H locs ls C Rl S L)
theorem z_dup2 {v w : Value} (hd : decode (mB M) pc = .ok (.dup2, 1)) (hc : v.category = 1) (hc2 : w.category = 1) (k : Z g d N M n cl sl (pc + 1) lv (v :: w :: v :: w :: st) μ F) : Z g d N M n cl sl pc lv (v :: w :: st) μ F := fun p e s m args below meth c R H locs ls C Rl S L => lv_dup2_11 C.1 C.2.1 hd ((tr_cat g v).trans hc) ((tr_cat g w).trans hc2) (k p e s m args below meth c R H locs ls C Rl S L)
theorem z_dup2l {v : Value} (hd : decode (mB M) pc = .ok (.dup2, 1)) (hc : v.category = 2) (k : Z g d N M n cl sl (pc + 1) lv (v :: v :: st) μ F) : Z g d N M n cl sl pc lv (v :: st) μ F := fun p e s m args below meth c R H locs ls C Rl S L => lv_dup2_2 C.1 C.2.1 hd ((tr_cat g v).trans hc) (k p e s m args below meth c R H locs ls C Rl S L)
theorem z_goto {off : Int} (tgt : Nat) (hd : decode (mB M) pc = .ok (.goto off, 3)) (ht : (pc : Int) + off = (tgt : Int)) (k : Z g d N M n cl sl tgt lv st μ F) : Z g d N M n cl sl pc lv st μ F := fun p e s m args below meth c R H locs ls C Rl S L => lv_goto C.1 C.2.1 hd ht (k p e s m args below meth c R H locs ls C Rl S L)
theorem z_if_eq {x : Int32} {off : Int} (tgt : Nat) (hd : decode (mB M) pc = .ok (.ifCond .eq off, 3)) (ht : (pc : Int) + off = (tgt : Int)) (kt : x = 0 → Z g d N M n cl sl tgt lv st μ F) (kf : ¬ (x = 0) → Z g d N M n cl sl (pc + 3) lv st μ F) : Z g d N M n cl sl pc lv (.int x :: st) μ F := fun p e s m args below meth c R H locs ls C Rl S L => lv_if_eq C.1 C.2.1 hd ht (fun h => kt h p e s m args below meth c R H locs ls C Rl S L) (fun h => kf h p e s m args below meth c R H locs ls C Rl S L)
theorem z_icmp_eq {x y : Int32} {off : Int} (tgt : Nat) (hd : decode (mB M) pc = .ok (.if_icmp .eq off, 3)) (ht : (pc : Int) + off = (tgt : Int)) (kt : x = y → Z g d N M n cl sl tgt lv st μ F) (kf : ¬ (x = y) → Z g d N M n cl sl (pc + 3) lv st μ F) : Z g d N M n cl sl pc lv (.int y :: .int x :: st) μ F := fun p e s m args below meth c R H locs ls C Rl S L => lv_icmp_eq C.1 C.2.1 hd ht (fun h => kt h p e s m args below meth c R H locs ls C Rl S L) (fun h => kf h p e s m args below meth c R H locs ls C Rl S L)
theorem z_if_ne {x : Int32} {off : Int} (tgt : Nat) (hd : decode (mB M) pc = .ok (.ifCond .ne off, 3)) (ht : (pc : Int) + off = (tgt : Int)) (kt : ¬ x = 0 → Z g d N M n cl sl tgt lv st μ F) (kf : x = 0 → Z g d N M n cl sl (pc + 3) lv st μ F) : Z g d N M n cl sl pc lv (.int x :: st) μ F := fun p e s m args below meth c R H locs ls C Rl S L => lv_if_ne C.1 C.2.1 hd ht (fun h => kt h p e s m args below meth c R H locs ls C Rl S L) (fun h => kf h p e s m args below meth c R H locs ls C Rl S L)
theorem z_icmp_ne {x y : Int32} {off : Int} (tgt : Nat) (hd : decode (mB M) pc = .ok (.if_icmp .ne off, 3)) (ht : (pc : Int) + off = (tgt : Int)) (kt : ¬ x = y → Z g d N M n cl sl tgt lv st μ F) (kf : x = y → Z g d N M n cl sl (pc + 3) lv st μ F) : Z g d N M n cl sl pc lv (.int y :: .int x :: st) μ F := fun p e s m args below meth c R H locs ls C Rl S L => lv_icmp_ne C.1 C.2.1 hd ht (fun h => kt h p e s m args below meth c R H locs ls C Rl S L) (fun h => kf h p e s m args below meth c R H locs ls C Rl S L)
theorem z_if_lt {x : Int32} {off : Int} (tgt : Nat) (hd : decode (mB M) pc = .ok (.ifCond .lt off, 3)) (ht : (pc : Int) + off = (tgt : Int)) (kt : x < 0 → Z g d N M n cl sl tgt lv st μ F) (kf : ¬ (x < 0) → Z g d N M n cl sl (pc + 3) lv st μ F) : Z g d N M n cl sl pc lv (.int x :: st) μ F := fun p e s m args below meth c R H locs ls C Rl S L => lv_if_lt C.1 C.2.1 hd ht (fun h => kt h p e s m args below meth c R H locs ls C Rl S L) (fun h => kf h p e s m args below meth c R H locs ls C Rl S L)
theorem z_icmp_lt {x y : Int32} {off : Int} (tgt : Nat) (hd : decode (mB M) pc = .ok (.if_icmp .lt off, 3)) (ht : (pc : Int) + off = (tgt : Int)) (kt : x < y → Z g d N M n cl sl tgt lv st μ F) (kf : ¬ (x < y) → Z g d N M n cl sl (pc + 3) lv st μ F) : Z g d N M n cl sl pc lv (.int y :: .int x :: st) μ F := fun p e s m args below meth c R H locs ls C Rl S L => lv_icmp_lt C.1 C.2.1 hd ht (fun h => kt h p e s m args below meth c R H locs ls C Rl S L) (fun h => kf h p e s m args below meth c R H locs ls C Rl S L)
theorem z_if_ge {x : Int32} {off : Int} (tgt : Nat) (hd : decode (mB M) pc = .ok (.ifCond .ge off, 3)) (ht : (pc : Int) + off = (tgt : Int)) (kt : 0 ≤ x → Z g d N M n cl sl tgt lv st μ F) (kf : ¬ (0 ≤ x) → Z g d N M n cl sl (pc + 3) lv st μ F) : Z g d N M n cl sl pc lv (.int x :: st) μ F := fun p e s m args below meth c R H locs ls C Rl S L => lv_if_ge C.1 C.2.1 hd ht (fun h => kt h p e s m args below meth c R H locs ls C Rl S L) (fun h => kf h p e s m args below meth c R H locs ls C Rl S L)
theorem z_icmp_ge {x y : Int32} {off : Int} (tgt : Nat) (hd : decode (mB M) pc = .ok (.if_icmp .ge off, 3)) (ht : (pc : Int) + off = (tgt : Int)) (kt : y ≤ x → Z g d N M n cl sl tgt lv st μ F) (kf : ¬ (y ≤ x) → Z g d N M n cl sl (pc + 3) lv st μ F) : Z g d N M n cl sl pc lv (.int y :: .int x :: st) μ F := fun p e s m args below meth c R H locs ls C Rl S L => lv_icmp_ge C.1 C.2.1 hd ht (fun h => kt h p e s m args below meth c R H locs ls C Rl S L) (fun h => kf h p e s m args below meth c R H locs ls C Rl S L)
theorem z_if_gt {x : Int32} {off : Int} (tgt : Nat) (hd : decode (mB M) pc = .ok (.ifCond .gt off, 3)) (ht : (pc : Int) + off = (tgt : Int)) (kt : 0 < x → Z g d N M n cl sl tgt lv st μ F) (kf : ¬ (0 < x) → Z g d N M n cl sl (pc + 3) lv st μ F) : Z g d N M n cl sl pc lv (.int x :: st) μ F := fun p e s m args below meth c R H locs ls C Rl S L => lv_if_gt C.1 C.2.1 hd ht (fun h => kt h p e s m args below meth c R H locs ls C Rl S L) (fun h => kf h p e s m args below meth c R H locs ls C Rl S L)
theorem z_icmp_gt {x y : Int32} {off : Int} (tgt : Nat) (hd : decode (mB M) pc = .ok (.if_icmp .gt off, 3)) (ht : (pc : Int) + off = (tgt : Int)) (kt : y < x → Z g d N M n cl sl tgt lv st μ F) (kf : ¬ (y < x) → Z g d N M n cl sl (pc + 3) lv st μ F) : Z g d N M n cl sl pc lv (.int y :: .int x :: st) μ F := fun p e s m args below meth c R H locs ls C Rl S L => lv_icmp_gt C.1 C.2.1 hd ht (fun h => kt h p e s m args below meth c R H locs ls C Rl S L) (fun h => kf h p e s m args below meth c R H locs ls C Rl S L)
theorem z_if_le {x : Int32} {off : Int} (tgt : Nat) (hd : decode (mB M) pc = .ok (.ifCond .le off, 3)) (ht : (pc : Int) + off = (tgt : Int)) (kt : x ≤ 0 → Z g d N M n cl sl tgt lv st μ F) (kf : ¬ (x ≤ 0) → Z g d N M n cl sl (pc + 3) lv st μ F) : Z g d N M n cl sl pc lv (.int x :: st) μ F := fun p e s m args below meth c R H locs ls C Rl S L => lv_if_le C.1 C.2.1 hd ht (fun h => kt h p e s m args below meth c R H locs ls C Rl S L) (fun h => kf h p e s m args below meth c R H locs ls C Rl S L)
theorem z_icmp_le {x y : Int32} {off : Int} (tgt : Nat) (hd : decode (mB M) pc = .ok (.if_icmp .le off, 3)) (ht : (pc : Int) + off = (tgt : Int)) (kt : x ≤ y → Z g d N M n cl sl tgt lv st μ F) (kf : ¬ (x ≤ y) → Z g d N M n cl sl (pc + 3) lv st μ F) : Z g d N M n cl sl pc lv (.int y :: .int x :: st) μ F := fun p e s m args below meth c R H locs ls C Rl S L => lv_icmp_le C.1 C.2.1 hd ht (fun h => kt h p e s m args below meth c R H locs ls C Rl S L) (fun h => kf h p e s m args below meth c R H locs ls C Rl S L)
theorem z_tableOut {dflt lo hi : Int} {offs : Array Int} {len : Nat} {x : Int32} (tgt : Nat) (hd : decode (mB M) pc = .ok (.tableswitch dflt lo hi offs, len)) (h : x.toInt < lo ∨ hi < x.toInt) (ht : (pc : Int) + dflt = (tgt : Int)) (k : Z g d N M n cl sl tgt lv st μ F) : Z g d N M n cl sl pc lv (.int x :: st) μ F := fun p e s m args below meth c R H locs ls C Rl S L => lv_tableOut C.1 C.2.1 hd h ht (k p e s m args below meth c R H locs ls C Rl S L)
theorem z_tableIn {dflt lo hi : Int} {offs : Array Int} {len : Nat} {x : Int32} {off : Int} (tgt : Nat) (hd : decode (mB M) pc = .ok (.tableswitch dflt lo hi offs, len)) (h1 : ¬ x.toInt < lo) (h2 : ¬ hi < x.toInt) (ho : offs[(x.toInt - lo).toNat]? = some off) (ht : (pc : Int) + off = (tgt : Int)) (k : Z g d N M n cl sl tgt lv st μ F) : Z g d N M n cl sl pc lv (.int x :: st) μ F := fun p e s m args below meth c R H locs ls C Rl S L => lv_tableIn C.1 C.2.1 hd h1 h2 ho ht (k p e s m args below meth c R H locs ls C Rl S L)
theorem z_lookup {dflt : Int} {ps : Array (Int × Int)} {len : Nat} {x : Int32} {off : Int} (tgt : Nat) (hd : decode (mB M) pc = .ok (.lookupswitch dflt ps, len)) (hp : (ps.toList.zip (ps.toList.drop 1)).all (fun (a, next) => a.1 < next.1) = true) (ho : Op.lookupswitch.offset ps.toList dflt x.toInt = off) (ht : (pc : Int) + off = (tgt : Int)) (k : Z g d N M n cl sl tgt lv st μ F) : Z g d N M n cl sl pc lv (.int x :: st) μ F := fun p e s m args below meth c R H locs ls C Rl S L => lv_lookup C.1 C.2.1 hd hp ho ht (k p e s m args below meth c R H locs ls C Rl S L)
theorem z_lv (ks : List Nat) (h : lv_pick lv ks = lv2) (k : Z g d N M n cl sl pc lv2 st μ F) : Z g d N M n cl sl pc lv st μ F := fun p e s m args below meth c R H locs ls C Rl S L => k p e s m args below meth c R H locs ls C Rl S (lv_sub L ks (by rw [← h]; simp only [lv_pick, zl, List.map_filterMap, List.getElem?_map]))
end ZS
end
section
/-! The rows of the layer that read and write the cells; calls, ends, the entry. -/
/-- a class of the world, with what the tables say of its fields -/
def zcl (ci : Nat) (C : String) (T : u_T) (N : Nat) (ty0 : Nat → FieldType) : Prop := vwCl[ci]? = some (C, T, N) ∧ zn ci = N ∧ ci < 11 ∧ (∀ w ∈ u_ws C T N, w ∈ zTb) ∧ (∀ k, k < N → parseFieldDescriptor (T k).2.2.1 = some (ty0 k)) ∧ ∀ a, a < N → ∀ b, b < N → a ≠ b → (T a).2.1 ≠ (T b).2.1
/-- a field's place in a class's own pool: class, place, what it holds, type, whether final -/
def zfl (own : String) (idx ci j ty : Nat) (fty : FieldType) (fin : Bool) : Prop := ∃ (C : String) (T : u_T) (N : Nat) (ty0 : Nat → FieldType), zcl ci C T N ty0 ∧ j < N ∧ Cond.fieldLink own idx (T j).1 (T j).2.1 (T j).2.2.1 ∈ zTb ∧ zt ci j = ty ∧ parseFieldDescriptor (T j).2.2.1 = some fty ∧ (T j).2.2.2 = fin ∧ (T j).1 = C
section ZM
variable {g : GG} {d : Nat} {N : Nat × Nat} {M : MM} {n cl sl pc : Nat} {lv lv2 : List (Nat × Value)} {st : List Value} {μ : Mm} {F : FF} {q ci j idx : Nat} {fty : FieldType} {fin : Bool}
theorem z_getI (hd : decode (mB M) pc = .ok (.getfield idx, 3)) (hq : zk n q (ci, 0)) (hl : zfl (mO M) idx ci j 0 fty fin) (k : Z g d N M n cl sl (pc + 3) lv (.int (μ.1 q j) :: st) μ F) : Z g d N M n cl sl pc lv (.ref q :: st) μ F := by
  intro p e s m args below meth c R H locs ls C Rl S L
  obtain ⟨CC, T, NN, ty0, ⟨h1, h2, h3, h4, h5, h6⟩, hj, hw, ht, hp, hf, -⟩ := hl
  have he := zW_get g μ hq.1
  rw [zE_o μ hq h3] at he
  refine va_get C.1 C.2.1 C.2.2.2.2.2.1 h4 C.2.2.2.2.1 Rl.1 Rl.2.1 q he h1 j hj (C.2.2.2.2.2.1 _ hw) (fun x h => h) (zf_get g μ q ci (by rw [h2]; exact hj)) hd ?_
  rw [ht]
  exact (k p e s m args below meth c R H locs ls C Rl S L)
theorem z_getL (hd : decode (mB M) pc = .ok (.getfield idx, 3)) (hq : zk n q (ci, 0)) (hl : zfl (mO M) idx ci j 1 fty fin) (k : Z g d N M n cl sl (pc + 3) lv (.long (μ.2.1 q j) :: st) μ F) : Z g d N M n cl sl pc lv (.ref q :: st) μ F := by
  intro p e s m args below meth c R H locs ls C Rl S L
  obtain ⟨CC, T, NN, ty0, ⟨h1, h2, h3, h4, h5, h6⟩, hj, hw, ht, hp, hf, -⟩ := hl
  have he := zW_get g μ hq.1
  rw [zE_o μ hq h3] at he
  refine va_get C.1 C.2.1 C.2.2.2.2.2.1 h4 C.2.2.2.2.1 Rl.1 Rl.2.1 q he h1 j hj (C.2.2.2.2.2.1 _ hw) (fun x h => h) (zf_get g μ q ci (by rw [h2]; exact hj)) hd ?_
  rw [ht]
  exact (k p e s m args below meth c R H locs ls C Rl S L)
theorem z_getR {r : Nat} (hd : decode (mB M) pc = .ok (.getfield idx, 3)) (hq : zk n q (ci, 0)) (hl : zfl (mO M) idx ci j 2 fty fin) (hr : μ.2.2 q j = some r) (k : Z g d N M n cl sl (pc + 3) lv (.ref r :: st) μ F) : Z g d N M n cl sl pc lv (.ref q :: st) μ F := by
  intro p e s m args below meth c R H locs ls C Rl S L
  obtain ⟨CC, T, NN, ty0, ⟨h1, h2, h3, h4, h5, h6⟩, hj, hw, ht, hp, hf, -⟩ := hl
  have he := zW_get g μ hq.1
  rw [zE_o μ hq h3] at he
  refine va_get C.1 C.2.1 C.2.2.2.2.2.1 h4 C.2.2.2.2.1 Rl.1 Rl.2.1 q he h1 j hj (C.2.2.2.2.2.1 _ hw) (fun x h => h) (zf_get g μ q ci (by rw [h2]; exact hj)) hd ?_
  rw [ht]
  show W p g.1 e R s m args below meth c H locs cl sl (F below args s) (F0 m (pc + 3) ls (va_rf ((μ.2.2 q j).map (gA g)) :: zv g st))
  rw [hr]
  exact (k p e s m args below meth c R H locs ls C Rl S L)
theorem z_putI {x : Int32} (hd : decode (mB M) pc = .ok (.putfield idx, 3)) (hq : zk n q (ci, 0)) (hl : zfl (mO M) idx ci j 0 fty false) (hn : narrow fty (.int x) = .int x ∧ fits fty (.int x) = true) (k : Z g d N M n cl sl (pc + 3) lv st (zsi μ q j x) F) : Z g d N M n cl sl pc lv (.int x :: .ref q :: st) μ F := by
  intro p e s m args below meth c R H locs ls C Rl S L
  obtain ⟨CC, T, NN, ty0, ⟨h1, h2, h3, h4, h5, h6⟩, hj, hw, ht, hp, hf, -⟩ := hl
  have he := zW_get g μ hq.1
  rw [zE_o μ hq h3] at he
  have hj2 : j < zn ci := by rw [h2]; exact hj
  refine va_put C.1 C.2.1 C.2.2.2.2.2.1 h4 ty0 h5 h6 C.2.2.2.2.1 Rl.1 Rl.2.1 Rl.2.2 S q he h1 j hj (C.2.2.2.2.2.1 _ hw) (fun x h => h) hf (v := .int x) hp hn.1 hn.2 (by rw [zf_len]; exact hj2) hd (fun H1 locs1 hP hD hS => ?_)
  refine k p e s m args below meth c R H1 locs1 ls C (zR_set Rl.1 hq.1 ?_ ?NE hP hD) hS L
  · rw [zE_o _ hq h3]
    refine congrArg (fun f => Sum.inr (ci, f)) (zf_set ?_ ?_ hj2).symm
    · rw [ht]; simp [zV, zsi, zsl, zsr, va_up, upd, vp_updL, va_rf, tr]
    · intro i hi
      unfold zV
      split <;> simp [zsi, zsl, zsr, va_up, upd, vp_updL, hi]
  case NE => first | exact zsi_ne | exact zsl_ne | exact zsr_ne
theorem z_putL {x : Int64} (hd : decode (mB M) pc = .ok (.putfield idx, 3)) (hq : zk n q (ci, 0)) (hl : zfl (mO M) idx ci j 1 fty false) (hn : narrow fty (.long x) = .long x ∧ fits fty (.long x) = true) (k : Z g d N M n cl sl (pc + 3) lv st (zsl μ q j x) F) : Z g d N M n cl sl pc lv (.long x :: .ref q :: st) μ F := by
  intro p e s m args below meth c R H locs ls C Rl S L
  obtain ⟨CC, T, NN, ty0, ⟨h1, h2, h3, h4, h5, h6⟩, hj, hw, ht, hp, hf, -⟩ := hl
  have he := zW_get g μ hq.1
  rw [zE_o μ hq h3] at he
  have hj2 : j < zn ci := by rw [h2]; exact hj
  refine va_put C.1 C.2.1 C.2.2.2.2.2.1 h4 ty0 h5 h6 C.2.2.2.2.1 Rl.1 Rl.2.1 Rl.2.2 S q he h1 j hj (C.2.2.2.2.2.1 _ hw) (fun x h => h) hf (v := .long x) hp hn.1 hn.2 (by rw [zf_len]; exact hj2) hd (fun H1 locs1 hP hD hS => ?_)
  refine k p e s m args below meth c R H1 locs1 ls C (zR_set Rl.1 hq.1 ?_ ?NE hP hD) hS L
  · rw [zE_o _ hq h3]
    refine congrArg (fun f => Sum.inr (ci, f)) (zf_set ?_ ?_ hj2).symm
    · rw [ht]; simp [zV, zsi, zsl, zsr, va_up, upd, vp_updL, va_rf, tr]
    · intro i hi
      unfold zV
      split <;> simp [zsi, zsl, zsr, va_up, upd, vp_updL, hi]
  case NE => first | exact zsi_ne | exact zsl_ne | exact zsr_ne
theorem z_putR {x : Nat} (hd : decode (mB M) pc = .ok (.putfield idx, 3)) (hq : zk n q (ci, 0)) (hl : zfl (mO M) idx ci j 2 fty false) (hn : ∀ a, narrow fty (.ref a) = .ref a ∧ fits fty (.ref a) = true) (k : Z g d N M n cl sl (pc + 3) lv st (zsr μ q j (some x)) F) : Z g d N M n cl sl pc lv (.ref x :: .ref q :: st) μ F := by
  intro p e s m args below meth c R H locs ls C Rl S L
  obtain ⟨CC, T, NN, ty0, ⟨h1, h2, h3, h4, h5, h6⟩, hj, hw, ht, hp, hf, -⟩ := hl
  have he := zW_get g μ hq.1
  rw [zE_o μ hq h3] at he
  have hj2 : j < zn ci := by rw [h2]; exact hj
  refine va_put C.1 C.2.1 C.2.2.2.2.2.1 h4 ty0 h5 h6 C.2.2.2.2.1 Rl.1 Rl.2.1 Rl.2.2 S q he h1 j hj (C.2.2.2.2.2.1 _ hw) (fun x h => h) hf (v := .ref (gA g x)) hp (hn _).1 (hn _).2 (by rw [zf_len]; exact hj2) hd (fun H1 locs1 hP hD hS => ?_)
  refine k p e s m args below meth c R H1 locs1 ls C (zR_set Rl.1 hq.1 ?_ ?NE hP hD) hS L
  · rw [zE_o _ hq h3]
    refine congrArg (fun f => Sum.inr (ci, f)) (zf_set ?_ ?_ hj2).symm
    · rw [ht]; simp [zV, zsi, zsl, zsr, va_up, upd, vp_updL, va_rf, tr]
    · intro i hi
      unfold zV
      split <;> simp [zsi, zsl, zsr, va_up, upd, vp_updL, hi]
  case NE => first | exact zsi_ne | exact zsl_ne | exact zsr_ne
theorem z_iald {i : Int32} {L0 : Nat} (hd : decode (mB M) pc = .ok (.iaload, 1)) (hq : zk n q (20, L0)) (hi : vp_in i L0) (k : Z g d N M n cl sl (pc + 1) lv (.int (μ.1 q i.toNatClampNeg) :: st) μ F) : Z g d N M n cl sl pc lv (.int i :: .ref q :: st) μ F := by
  intro p e s m args below meth c R H locs ls C Rl S L
  have he := zW_get g μ hq.1
  rw [zE_i μ hq] at he
  exact va_iald C.1 C.2.1 Rl.1 Rl.2.1 q 0 he rfl hi hd (k p e s m args below meth c R H locs ls C Rl S L)
theorem z_lald {i : Int32} {L0 : Nat} (hd : decode (mB M) pc = .ok (.laload, 1)) (hq : zk n q (21, L0)) (hi : vp_in i L0) (k : Z g d N M n cl sl (pc + 1) lv (.long (μ.2.1 q i.toNatClampNeg) :: st) μ F) : Z g d N M n cl sl pc lv (.int i :: .ref q :: st) μ F := by
  intro p e s m args below meth c R H locs ls C Rl S L
  have he := zW_get g μ hq.1
  rw [zE_l μ hq] at he
  exact va_lald C.1 C.2.1 Rl.1 Rl.2.1 q 1 he rfl hi hd (k p e s m args below meth c R H locs ls C Rl S L)
theorem z_zald {i : Int32} {L0 : Nat} (hd : decode (mB M) pc = .ok (.baload, 1)) (hq : zk n q (22, L0)) (hi : vp_in i L0) (k : Z g d N M n cl sl (pc + 1) lv (.int (μ.1 q i.toNatClampNeg) :: st) μ F) : Z g d N M n cl sl pc lv (.int i :: .ref q :: st) μ F := by
  intro p e s m args below meth c R H locs ls C Rl S L
  have he := zW_get g μ hq.1
  rw [zE_z μ hq] at he
  exact va_zald C.1 C.2.1 Rl.1 Rl.2.1 q 2 he rfl hi hd (k p e s m args below meth c R H locs ls C Rl S L)
theorem z_aaldP {i : Int32} {L0 r : Nat} (hd : decode (mB M) pc = .ok (.aaload, 1)) (hq : zk n q (23, L0)) (hi : vp_in i L0) (hr : μ.2.2 q i.toNatClampNeg = some r) (k : Z g d N M n cl sl (pc + 1) lv (.ref r :: st) μ F) : Z g d N M n cl sl pc lv (.int i :: .ref q :: st) μ F := by
  intro p e s m args below meth c R H locs ls C Rl S L
  have he := zW_get g μ hq.1
  rw [zE_p μ hq] at he
  refine va_aldq C.1 C.2.1 Rl.1 Rl.2.1 q 3 he rfl hi hd ?_
  show W p g.1 e R s m args below meth c H locs cl sl (F below args s) (F0 m (pc + 1) ls (va_rf ((μ.2.2 q i.toNatClampNeg).map (gA g)) :: zv g st))
  rw [hr]
  exact (k p e s m args below meth c R H locs ls C Rl S L)
theorem z_aaldT {i : Int32} {L0 r : Nat} (hd : decode (mB M) pc = .ok (.aaload, 1)) (hq : zk n q (24, L0)) (hi : vp_in i L0) (hr : μ.2.2 q i.toNatClampNeg = some r) (k : Z g d N M n cl sl (pc + 1) lv (.ref r :: st) μ F) : Z g d N M n cl sl pc lv (.int i :: .ref q :: st) μ F := by
  intro p e s m args below meth c R H locs ls C Rl S L
  have he := zW_get g μ hq.1
  rw [zE_t μ hq] at he
  refine va_aldq C.1 C.2.1 Rl.1 Rl.2.1 q 4 he rfl hi hd ?_
  show W p g.1 e R s m args below meth c H locs cl sl (F below args s) (F0 m (pc + 1) ls (va_rf ((μ.2.2 q i.toNatClampNeg).map (gA g)) :: zv g st))
  rw [hr]
  exact (k p e s m args below meth c R H locs ls C Rl S L)
theorem z_iast {i : Int32} {x : Int32} {L0 : Nat} (hd : decode (mB M) pc = .ok (.iastore, 1)) (hq : zk n q (20, L0)) (hi : vp_in i L0) (k : Z g d N M n cl sl (pc + 1) lv st (zsi μ q i.toNatClampNeg x) F) : Z g d N M n cl sl pc lv (.int x :: .int i :: .ref q :: st) μ F := by
  intro p e s m args below meth c R H locs ls C Rl S L
  have he := zW_get g μ hq.1
  rw [zE_i μ hq] at he
  refine va_iast C.1 C.2.1 Rl.1 Rl.2.1 Rl.2.2 S q 0 he rfl hi hd (fun H1 locs1 hP hD hS => ?_)
  refine k p e s m args below meth c R H1 locs1 ls C (zR_set Rl.1 hq.1 ?_ ?NE hP hD) hS L
  · rw [zE_i _ hq]; simp [zsi, zsl, zsr, va_up]
  case NE => first | exact zsi_ne | exact zsl_ne | exact zsr_ne
theorem z_last {i : Int32} {x : Int64} {L0 : Nat} (hd : decode (mB M) pc = .ok (.lastore, 1)) (hq : zk n q (21, L0)) (hi : vp_in i L0) (k : Z g d N M n cl sl (pc + 1) lv st (zsl μ q i.toNatClampNeg x) F) : Z g d N M n cl sl pc lv (.long x :: .int i :: .ref q :: st) μ F := by
  intro p e s m args below meth c R H locs ls C Rl S L
  have he := zW_get g μ hq.1
  rw [zE_l μ hq] at he
  refine va_last C.1 C.2.1 Rl.1 Rl.2.1 Rl.2.2 S q 1 he rfl hi hd (fun H1 locs1 hP hD hS => ?_)
  refine k p e s m args below meth c R H1 locs1 ls C (zR_set Rl.1 hq.1 ?_ ?NE hP hD) hS L
  · rw [zE_l _ hq]; simp [zsi, zsl, zsr, va_up]
  case NE => first | exact zsi_ne | exact zsl_ne | exact zsr_ne
theorem z_zast {i : Int32} {x : Int32} {L0 : Nat} (hd : decode (mB M) pc = .ok (.bastore, 1)) (hq : zk n q (22, L0)) (hi : vp_in i L0) (k : Z g d N M n cl sl (pc + 1) lv st (zsi μ q i.toNatClampNeg (vp_nar .boolean x)) F) : Z g d N M n cl sl pc lv (.int x :: .int i :: .ref q :: st) μ F := by
  intro p e s m args below meth c R H locs ls C Rl S L
  have he := zW_get g μ hq.1
  rw [zE_z μ hq] at he
  refine va_zast C.1 C.2.1 Rl.1 Rl.2.1 Rl.2.2 S q 2 he rfl hi hd (fun H1 locs1 hP hD hS => ?_)
  refine k p e s m args below meth c R H1 locs1 ls C (zR_set Rl.1 hq.1 ?_ ?NE hP hD) hS L
  · rw [zE_z _ hq]; simp [zsi, zsl, zsr, va_up]
  case NE => first | exact zsi_ne | exact zsl_ne | exact zsr_ne
theorem z_alen {L0 : Nat} {v : Int32} (hd : decode (mB M) pc = .ok (.arraylength, 1)) (hq : zk n q (20, L0)) (hv : Int32.ofNat L0 = v) (k : Z g d N M n cl sl (pc + 1) lv (.int v :: st) μ F) : Z g d N M n cl sl pc lv (.ref q :: st) μ F := by
  intro p e s m args below meth c R H locs ls C Rl S L
  have he := zW_get g μ hq.1
  rw [zE_i μ hq] at he
  exact va_alen C.1 C.2.1 Rl.1 Rl.2.1 q 0 he rfl hv hd (k p e s m args below meth c R H locs ls C Rl S L)
theorem z_threes (hd : decode (mB M) pc = .ok (.getstatic idx, 3)) (hw : Cond.fieldLinkNest (mO M) idx RX11 "THREES" "[I" "FuseMinutes" = zNf) (k : Z g d N M n cl sl (pc + 3) lv (.ref 1000 :: st) μ F) : Z g d N M n cl sl pc lv st μ F := fun p e s m args below meth c R H locs ls C Rl S L => va_getsN C.1 C.2.1 C.2.2.2.2.2.2.2.2.1.1 S C.2.2.2.2.1 (va_Nw.use rfl (by rw [hw]; exact C.2.2.2.2.2.2.2.2.1.2.2.2.2.1.2.1)) (fun _ h => h) hd (k p e s m args below meth c R H locs ls C Rl S L)
theorem z_thald {i : Int32} (hd : decode (mB M) pc = .ok (.iaload, 1)) (hi : vp_in i 4) (k : Z g d N M n cl sl (pc + 1) lv (.int (zth i.toNatClampNeg) :: st) μ F) : Z g d N M n cl sl pc lv (.int i :: .ref 1000 :: st) μ F := fun p e s m args below meth c R H locs ls C Rl S L => va_ti C.1 C.2.1 C.2.2.2.2.2.2.2.2.1.2.1 S hi rfl hd (k p e s m args below meth c R H locs ls C Rl S L)
theorem zX_lt {U : State} {H : Heap} (h : zX g U H) : gA g 1001 < H.size := by
  obtain ⟨-, -, ⟨scr, h1, -⟩, -⟩ := h
  exact (Array.getElem?_eq_some_iff.mp h1).1
theorem z_sald {i : Int32} (hd : decode (mB M) pc = .ok (.iaload, 1)) (hi : vp_in i (gN g)) (k : Z g d N M n cl sl (pc + 1) lv (.int (gX g i.toNatClampNeg) :: st) μ F) : Z g d N M n cl sl pc lv (.int i :: .ref 1001 :: st) μ F := fun p e s m args below meth c R H locs ls C Rl S L => va_sld C.1 C.2.1 C.2.2.2.2.2.2.2.2.1.2.2.1 (zX_lt C.2.2.2.2.2.2.2.2.1) C.2.2.2.2.2.2.2.2.1.2.2.2.1 S hi hd (k p e s m args below meth c R H locs ls C Rl S L)
theorem z_slen (hd : decode (mB M) pc = .ok (.arraylength, 1)) (k : Z g d N M n cl sl (pc + 1) lv (.int (Int32.ofNat (gN g)) :: st) μ F) : Z g d N M n cl sl pc lv (.ref 1001 :: st) μ F := fun p e s m args below meth c R H locs ls C Rl S L => va_slen C.1 C.2.1 C.2.2.2.2.2.2.2.2.1.2.2.1 (zX_lt C.2.2.2.2.2.2.2.2.1) C.2.2.2.2.2.2.2.2.1.2.2.2.1 S hd (k p e s m args below meth c R H locs ls C Rl S L)
end ZM
end
section
/-! Contracts over the layer: entry, ends, calls. -/
def zws (Y : MM) : List Cond := .code Y.1 (mB Y) (mL Y) (mR Y) ::  zTb
/-- the method's own code stands among the words -/
def zin (Y : MM) : Prop := Cond.code Y.1 (mB Y) (mL Y) (mR Y) ∈ zTb ∧ plainName Y.1.cls = true
theorem zGood {Y : MM} (h : zin Y) : GoodIn zTb (zws Y) := by
  intro w hw
  have hm : w ∈ zTb := by
    rcases List.mem_cons.mp hw with e | e
    · rw [e]; exact h.1
    · exact e
  exact ⟨hm, good_of_word (List.mem_filter.mp hm).2⟩
def zrm (d : Nat) : Room := { frames := d, cells := 0, slots := 0, locals := 64 * d }
abbrev zPc (g : GG) (As : List Value) (μ : Mm) : Array Value → State → Prop := fun a U => a = (zv g As).toArray ∧ zR g 333 μ U U.heap ∧ zX g U U.heap
abbrev zQ (g : GG) (r : Option Value × Mm) : Array Value → State → Outcome → State → Prop := fun _ st oc t => oc = .returned (r.1.map (tr g)) ∧ zR g 333 r.2 t t.heap ∧ va_F (zA g) st t
def zF (g : GG) (r : Option Value × Mm) : FF := fun below args s => MQ below (zQ g r) args s 0 0 (zA g)
/-- the contract: from this memory, with these arguments, the method returns just r -/
def Ct (g : GG) (d : Nat) (Y : MM) (As : List Value) (μ : Mm) (r : Option Value × Mm) : Prop := Met g.1 Y.1 (zws Y) (zrm d) (zPc g As μ) (zQ g r) 0 0 (zA g)
theorem zNw_warm {g : GG} {s U : State} (hW : s.WarmedH U.vm) (h : zNw g s) : zNw g U := ⟨fun q hq => va_Nw.warmM hW (h.1 q hq), va_Nw.warmF hW h.2.1, h.2.2.1.warm hW, h.2.2.2.warm hW⟩
theorem zNw_same {g : GG} {u U : State} (hv : u.vm = U.vm) (h : zNw g u) : zNw g U := ⟨fun q hq => va_Nw.same rfl hv (h.1 q hq), va_Nw.same rfl hv h.2.1, h.2.2.1.same hv.symm, h.2.2.2.same hv.symm⟩
theorem zSt_moved {g : GG} {u U : State} {H : Heap} (hvm : u.vm.Alike U.vm) (h : zSt g u H) : zSt g U H := ⟨h.1.moved hvm, h.2.1.moved hvm, h.2.2.imp (fun q => q.moved hvm) (fun q => q.moved hvm)⟩
theorem zSt_kept {g : GG} {U : State} {H H1 : Heap} (h : zSt g U H) (hq : ∀ a : Nat, a < H.size → ¬ zA g a → H1[a]? = H[a]?) : zSt g U H1 := ⟨h.1.kept hq, h.2.1.kept hq, h.2.2.imp (fun q => q.kept hq) (fun q => q.kept hq)⟩
theorem zX_moved {g : GG} {u U : State} {H : Heap} (hvm : u.vm.Alike U.vm) (hN : zNw g U) (h : zX g u H) : zX g U H := ⟨h.1.moved hvm, h.2.1.moved hvm, h.2.2.1.moved hvm, h.2.2.2.1, hN, zSt_moved hvm h.2.2.2.2.2⟩
theorem zX_kept {g : GG} {U : State} {H H1 : Heap} (h : zX g U H) (hq : ∀ a : Nat, a < H.size → ¬ zA g a → H1[a]? = H[a]?) : zX g U H1 := ⟨h.1.kept hq, h.2.1.kept hq, h.2.2.1.kept (hq _ (zX_lt h) h.2.2.2.1), h.2.2.2.1, h.2.2.2.2.1, zSt_kept h.2.2.2.2.2 hq⟩
theorem zl_args (g : GG) : ∀ (As : List Value) (i : Nat), lv_args i (zv g As) = zl g (lv_args i As)
  | [], _ => rfl
  | v :: vs, i => by
    show (i, tr g v) :: lv_args (if (tr g v).category = 2 then i + 2 else i + 1) (zv g vs) = _
    rw [tr_cat, zl_args g vs]
    rfl
theorem zl_sl (g : GG) : ∀ (As : List Value), (lg_sl (zv g As)).length = (lg_sl As).length
  | [] => rfl
  | v :: vs => by
    have ih := zl_sl g vs
    simp only [lg_sl, zv, List.map_cons, List.flatMap_cons, List.length_append, tr_cat] at ih ⊢
    rw [ih]
    split <;> rfl
theorem z_entry {g : GG} {d : Nat} {Y : MM} {As : List Value} {μ : Mm} {r : Option Value × Mm} (hY : zin Y) (hA : (lg_sl As).length ≤ mL Y) (h : Z g d (0, 0) Y 333 0 0 0 (lv_args 0 As) [] μ (zF g r)) : Ct g d Y As μ r := by
  refine Met.ofW (cc := mB Y) (maxL := mL Y) (ret := mR Y) hY.2 rfl ?_
  intro p e s m args below meth c s₁ B hml hv
  obtain ⟨rfl, hR, hX⟩ := hv
  have hts0 := atoms_spec (ws := zws Y) B.pre
  have hl := lv_entry (zv g As) (n := mL Y) (by rw [zl_sl]; exact hA)
  rw [zl_args] at hl
  rw [lg_entry_eq]
  exact h p e s m _ below meth c (zrm d) s.heap [] _ ⟨B.exec, B.bytes, B.returns, hml, findClass_of_methodNamed B.named, fun w hw => hts0 w (List.mem_cons_of_mem _ hw), B.notSynchronized, (name_of_methodNamed B.named B.method).1, hX, Nat.le_refl _, Nat.le_refl _, Nat.le_refl _, Nat.le_refl _⟩ hR va_S.rf hl
theorem z_iret {g : GG} {d : Nat} {M : MM} {pc : Nat} {lv : List (Nat × Value)} {μ : Mm} {x : Int32} (hd : decode (mB M) pc = .ok (.ireturn, 1)) (hr : mR M = some .int) : Z g d (0, 0) M 333 0 0 pc lv [.int x] μ (zF g (some (.int x), μ)) := by
  intro p e s m args below meth c R H locs ls C Rl S L
  refine W.iret C.1 C.2.1 (C.2.2.1.trans hr)  (fun t ht hW => ⟨rfl, ⟨va_K.moved hW.alike Rl.1, by rw [ht]; exact Rl.2.1, Rl.2.2⟩, S.F ht⟩) S.2.2 hd C.2.2.2.2.2.2.1
theorem z_zret {g : GG} {d : Nat} {M : MM} {pc : Nat} {lv : List (Nat × Value)} {μ : Mm} {x : Int32} (hd : decode (mB M) pc = .ok (.ireturn, 1)) {ty : FieldType} (hr : mR M = some ty) (hn : narrow ty (.int x) = .int x) : Z g d (0, 0) M 333 0 0 pc lv [.int x] μ (zF g (some (.int x), μ)) := by
  intro p e s m args below meth c R H locs ls C Rl S L
  refine W.zret C.1 C.2.1 (C.2.2.1.trans hr) hn (fun t ht hW => ⟨rfl, ⟨va_K.moved hW.alike Rl.1, by rw [ht]; exact Rl.2.1, Rl.2.2⟩, S.F ht⟩) S.2.2 hd C.2.2.2.2.2.2.1
theorem z_lret {g : GG} {d : Nat} {M : MM} {pc : Nat} {lv : List (Nat × Value)} {μ : Mm} {x : Int64} (hd : decode (mB M) pc = .ok (.lreturn, 1)) (hr : mR M = some .long) : Z g d (0, 0) M 333 0 0 pc lv [.long x] μ (zF g (some (.long x), μ)) := by
  intro p e s m args below meth c R H locs ls C Rl S L
  refine W.lret C.1 C.2.1 (C.2.2.1.trans hr)  (fun t ht hW => ⟨rfl, ⟨va_K.moved hW.alike Rl.1, by rw [ht]; exact Rl.2.1, Rl.2.2⟩, S.F ht⟩) S.2.2 hd C.2.2.2.2.2.2.1
theorem z_vret {g : GG} {d : Nat} {M : MM} {pc : Nat} {lv : List (Nat × Value)} {μ : Mm}  (hd : decode (mB M) pc = .ok (.return_, 1)) (hr : mR M = none) : Z g d (0, 0) M 333 0 0 pc lv [] μ (zF g (none, μ)) := by
  intro p e s m args below meth c R H locs ls C Rl S L
  refine W.vret C.1 C.2.1 (C.2.2.1.trans hr)  (fun t ht hW => ⟨rfl, ⟨va_K.moved hW.alike Rl.1, by rw [ht]; exact Rl.2.1, Rl.2.2⟩, S.F ht⟩) S.2.2 hd C.2.2.2.2.2.2.1
/-- words of a call: the link, the parameters' number -/
abbrev zcy (Y : MM) (np : Nat) : Prop := zin Y ∧ mL Y ≤ 40 ∧ Cond.initialized Y.1.cls ∈ zTb ∧ Y.1.cls ≠ "java/lang/invoke/MethodHandle" ∧ Y.1.cls ≠ "java/lang/invoke/VarHandle" ∧ (parseMethodDescriptor Y.1.desc).map (fun d => d.parameters.length) = some np
/-- an own instance method, of a class of the world -/
def zcV (Y : MM) (ci np : Nat) : Prop := zcy Y np ∧ ci < 11 ∧ (∃ r, vwCl[ci]? = some r ∧ r.1 = Y.1.cls) ∧ Cond.instanceMethod Y.1 ∈ zTb ∧ Cond.selects Y.1.cls Y.1 Y.1 ∈ zTb
def zcS (Y : MM) (np : Nat) : Prop := zcy Y np ∧ Cond.static Y.1 ∈ zTb
theorem z_back {g : GG} {s t st0 : State} {H : Heap} {locs L : List Loc} (hS : va_S (zA g) s.heap H locs) (h0 : st0.heap = H) (hF : va_F (zA g) st0 t) (hL : ∀ q ∈ L, zA g q.base) : va_S (zA g) s.heap t.heap (locs ++ L) := by
  obtain ⟨a1, a2, a3⟩ := hS
  obtain ⟨b1, b2⟩ := hF
  rw [h0] at b1 b2
  refine ⟨Nat.le_trans a1 b1, fun q h1 h2 => (b2 q (Nat.lt_of_lt_of_le h1 a1) h2).trans (a2 q h1 h2), fun x hx => ?_⟩
  rcases List.mem_append.mp hx with h | h
  · exact a3 x h
  · exact hL x h
theorem zPc_blind {g : GG} {As : List Value} {μ : Mm} : FrameBlind (zPc g As μ) := fun a U g' mk h => ⟨h.1, ⟨va_K.moved (u := U) (U := U.calling g' mk a) (Vm.Alike.refl U.vm) h.2.1.1, h.2.1.2⟩, zX_moved (u := U) (U := U.calling g' mk a) (Vm.Alike.refl U.vm) (zNw_same rfl h.2.2.2.2.2.2.1) h.2.2⟩
theorem zPc_at {g : GG} {As : List Value} {μ : Mm} {s : State} {H : Heap} {locs : List Loc} (hR : zR g 333 μ s H) (hX : zX g s s.heap) (hS : va_S (zA g) s.heap H locs) : ∀ U : State, U.heap = H → s.WarmedH U.vm → zPc g As μ (zv g As).toArray U := fun U hU hW => ⟨rfl, ⟨va_K.moved hW.alike hR.1, by rw [hU]; exact hR.2.1, hR.2.2⟩, by rw [hU]; exact zX_kept (zX_moved hW.alike (zNw_warm hW hX.2.2.2.2.1) hX) hS.2.1⟩
theorem zcat {g : GG} {st : List Value} : ((zv g st).map fun v => v.category) = st.map fun v => v.category := by simp [zv, tr_cat]
section ZCALL
variable {g : GG} {d d2 : Nat} {M Y : MM} {pc idx ci np q : Nat} {lv : List (Nat × Value)} {st As : List Value} {μ : Mm} {F : FF} {r : Option Value × Mm}
theorem z_goes {p : Program} {e : Env} {s : State} {m : MethodId} {args : Array Value} {below : List Frame} {meth : Method} {c : Code} {R : Room} {H : Heap} {locs : List Loc} {ls : Array Slot} {a : Array Value} {stk : List Value}
    (hr : va_Run p g.1 e R s m args below meth c H locs 0 0 0 0 (F0 m pc ls stk) (zv g st) (zQ g r a) (zA g)) (C : zC g d (0, 0) M p s m args meth c R) (Rl : zR g 333 μ s H) (S : va_S (zA g) s.heap H locs) (L : lv_has ls (mL M) (zl g lv)) (k : Z g d (0, 0) M 333 0 0 (pc + 3) lv (r.1.toList ++ st) r.2 F) :
    W p g.1 e R s m args below meth c H locs 0 0 (F below args s) (F0 m pc ls stk) := by
  intro T hT X
  obtain ⟨v, st₀, t, T', L', h0, X', hL', e1, e2, ⟨hv, hR, hF⟩, hst⟩ := hr T hT X
  have hv2 : v = r.1.map (tr g) := by cases hv; rfl
  obtain ⟨t2, a1, b1⟩ := k p e s m args below meth c R t.heap (locs ++ L') ls C ⟨Rl.1, hR.2⟩ (z_back S h0 hF hL') L T' e1 X'
  refine ⟨t2, hst t2 ?_, b1⟩
  have e3 : v.toList ++ zv g st = zv g (r.1.toList ++ st) := by
    rw [hv2]; cases r.1 <;> rfl
  rw [e3]
  exact a1
theorem z_callV (hd : decode (mB M) pc = .ok (.invokevirtual idx, 3)) (hw : Cond.methodLink (mO M) idx Y.1 ∈ zTb) (hY : zcV Y ci np) (hq : zk 333 q (ci, 0)) (hC : Ct g d2 Y (.ref q :: As) μ r) (hdd : d2 + 1 ≤ d) (hn : As.length = np) {stk : List Value} (hs : As.reverse ++ .ref q :: st = stk) (hW : (st.map fun v => v.category).sum ≤ 8) (k : Z g d (0, 0) M 333 0 0 (pc + 3) lv (r.1.toList ++ st) r.2 F) : Z g d (0, 0) M 333 0 0 pc lv stk μ F := by
  intro p e s m args below meth c R H locs ls C Rl S L
  obtain ⟨⟨hin, hml, hini, hy1, hy2, hnp⟩, hci, ⟨rr, hr1, hr2⟩, hins, hsel⟩ := hY
  have hts := C.2.2.2.2.2.1
  have hfr := C.2.2.2.2.2.2.2.2.2
  have he := zW_get g μ hq.1
  rw [zE_o μ hq hci] at he
  have cw : CallW R s args (mO M) Y.1.cls idx Y.1 (mB Y) (mL Y) (mR Y) (zws Y) (zrm d2) 0 0 np := ⟨callB_of np hts (zGood hin) rfl rfl rfl (hts _ hini) (hts _ hw) ⟨hy1, hy2, hnp⟩ ⟨Nat.le_trans hdd hfr.1, by show 8 + (mL Y + 11) + 64 * d2 ≤ R.locals; have := hfr.2.1; omega⟩, hts _ hins, hts _ hsel⟩
  have hrec := va_recv Rl.1 Rl.2.1 hr1 he
  rw [hr2] at hrec
  have hrun := va_runV (e := e) (below := below) (meth := meth) (locs := locs) (cells := 0) (slots := 0) (As := zv g As) (rest := zv g st) (g := F0 m pc ls (zv g stk)) (nL := mL M) ⟨C.1, C.2.1, C.2.2.2.1, C.2.2.2.2.1, hts⟩ hC cw ⟨zPc_blind, hrec, zPc_at (As := .ref q :: As) Rl C.2.2.2.2.2.2.2.2.1 S⟩ rfl (by simp [zv, hn]) L.1 (by rw [← hs]; simp [zv, tr]) (lv_room (by rw [zcat]; exact hW)) hd ⟨Nat.zero_le _, Nat.zero_le _⟩
  exact z_goes hrun C Rl S L k
theorem z_callS (hd : decode (mB M) pc = .ok (.invokestatic idx, 3)) (hw : Cond.methodLink (mO M) idx Y.1 ∈ zTb) (hY : zcS Y np) (hC : Ct g d2 Y As μ r) (hdd : d2 + 1 ≤ d) (hn : As.length = np) {stk : List Value} (hs : As.reverse ++ st = stk) (hW : (st.map fun v => v.category).sum ≤ 8) (k : Z g d (0, 0) M 333 0 0 (pc + 3) lv (r.1.toList ++ st) r.2 F) : Z g d (0, 0) M 333 0 0 pc lv stk μ F := by
  intro p e s m args below meth c R H locs ls C Rl S L
  obtain ⟨⟨hin, hml, hini, hy1, hy2, hnp⟩, hst⟩ := hY
  have hts := C.2.2.2.2.2.1
  have hfr := C.2.2.2.2.2.2.2.2.2
  have cw : CallB R s args (mO M) idx Y.1 (mB Y) (mL Y) (mR Y) (zws Y) (zrm d2) 0 0 np ∧ (Cond.static Y.1).before args s = true := ⟨callB_of np hts (zGood hin) rfl rfl rfl (hts _ hini) (hts _ hw) ⟨hy1, hy2, hnp⟩ ⟨Nat.le_trans hdd hfr.1, by show 8 + (mL Y + 11) + 64 * d2 ≤ R.locals; have := hfr.2.1; omega⟩, hts _ hst⟩
  have hrun := va_runS (e := e) (below := below) (meth := meth) (locs := locs) (cells := 0) (slots := 0) (As := zv g As) (rest := zv g st) (g := F0 m pc ls (zv g stk)) (nL := mL M) ⟨C.1, C.2.1, C.2.2.2.1, C.2.2.2.2.1, hts⟩ hC cw ⟨zPc_blind, zPc_at Rl C.2.2.2.2.2.2.2.2.1 S⟩ rfl (by simp [zv, hn]) L.1 (by rw [← hs]; simp [zv, tr]) (lv_room (by rw [zcat]; exact hW)) hd ⟨Nat.zero_le _, Nat.zero_le _⟩
  exact z_goes hrun C Rl S L k
/-- a private static method of another class of the nest -/
theorem z_callSN (hd : decode (mB M) pc = .ok (.invokestatic idx, 3)) (hw : (mO M, idx, Y.1) ∈ zNm) (hY : zcS Y np) (hC : Ct g d2 Y As μ r) (hdd : d2 + 1 ≤ d) (hn : As.length = np) {stk : List Value} (hs : As.reverse ++ st = stk) (hW : (st.map fun v => v.category).sum ≤ 8) (k : Z g d (0, 0) M 333 0 0 (pc + 3) lv (r.1.toList ++ st) r.2 F) : Z g d (0, 0) M 333 0 0 pc lv stk μ F := by
  intro p e s m args below meth c R H locs ls C Rl S L
  obtain ⟨⟨hin, hml, hini, hy1, hy2, hnp⟩, hst⟩ := hY
  have hts := C.2.2.2.2.2.1
  have hfr := C.2.2.2.2.2.2.2.2.2
  have cw : va_CN R s args (mO M) idx Y.1 "FuseMinutes" (mB Y) (mL Y) (mR Y) (zws Y) (zrm d2) 0 0 np ∧ (Cond.static Y.1).before args s = true ∧ True := ⟨va_cnB np hts (zGood hin) rfl rfl rfl (C.2.2.2.2.2.2.2.2.1.2.2.2.2.1.1 _ hw) (hts _ hini) ⟨hy1, hy2, hnp⟩ ⟨Nat.le_trans hdd hfr.1, by show 8 + (mL Y + 11) + 64 * d2 ≤ R.locals; have := hfr.2.1; omega⟩, hts _ hst, trivial⟩
  have hrun := va_runSN (e := e) (below := below) (meth := meth) (locs := locs) (cells := 0) (slots := 0) (As := zv g As) (rest := zv g st) (g := F0 m pc ls (zv g stk)) (nL := mL M) ⟨C.1, C.2.1, C.2.2.2.1, C.2.2.2.2.1, hts⟩ hC cw ⟨zPc_blind, zPc_at Rl C.2.2.2.2.2.2.2.2.1 S⟩ rfl (by simp [zv, hn]) L.1 (by rw [← hs]; simp [zv, tr]) (lv_room (by rw [zcat]; exact hW)) hd ⟨Nat.zero_le _, Nat.zero_le _⟩
  exact z_goes hrun C Rl S L k
/-- int rows copied -/
def zcp (μ : Mm) (a sp b dp k : Nat) : Mm := (va_up μ.1 b (va_cpy (μ.1 a) (μ.1 b) sp dp k), μ.2)
theorem z_copy {a b L0 L1 : Nat} {sp dp k : Int32} (hd : decode (mB M) pc = .ok (.invokestatic idx, 3)) (hw : Cond.methodLink (mO M) idx arraycopyName ∈ zTb ∧ Cond.native arraycopyName ∈ zTb ∧ Cond.static arraycopyName ∈ zTb ∧ Cond.initialized "java/lang/System" ∈ zTb) (ha : zk 333 a (20, L0)) (hb : zk 333 b (20, L1)) (h : ¬ sp < 0 ∧ ¬ dp < 0 ∧ ¬ k < 0 ∧ sp.toNatClampNeg + k.toNatClampNeg ≤ L0 ∧ dp.toNatClampNeg + k.toNatClampNeg ≤ L1) (hdd : 1 ≤ d) (hW : (st.map fun v => v.category).sum ≤ 8)
    (kk : Z g d (0, 0) M 333 0 0 (pc + 3) lv st (zcp μ a sp.toNatClampNeg b dp.toNatClampNeg k.toNatClampNeg) F) : Z g d (0, 0) M 333 0 0 pc lv (.int k :: .int dp :: .ref b :: .int sp :: .ref a :: st) μ F := by
  intro p e s m args below meth c R H locs ls C Rl S L
  have hts := C.2.2.2.2.2.1
  have hfr := C.2.2.2.2.2.2.2.2.2
  have hea := zW_get g μ ha.1
  rw [zE_i μ ha] at hea
  have heb := zW_get g μ hb.1
  rw [zE_i μ hb] at heb
  have hcat : ((zv g st).map fun v => v.category) = st.map fun v => v.category := by simp [zv, tr_cat]
  refine va_copyi C.1 C.2.1 (C.2.2.2.1.trans L.1.symm) C.2.2.2.2.1 (hts _ hw.1) (hts _ hw.2.1) (hts _ hw.2.2.1) (hts _ hw.2.2.2) Rl.1 Rl.2.1 Rl.2.2 S a b 0 0 hea heb rfl rfl rfl h.1 h.2.1 h.2.2.1 h.2.2.2.1 h.2.2.2.2 (fun _ _ => rfl) (Nat.le_trans hdd hfr.1) ?_ hd (fun H1 locs1 hP hD hS => ?_)
  · show ((zv g st).map fun v => v.category).sum + _ ≤ _
    rw [hcat]
    have e1 : nativeFrameWords "java/lang/System" "arraycopy" 5 + 11 ≤ 48 := by decide
    have := hfr.2.1
    omega
  · refine kk p e s m args below meth c R H1 locs1 ls C (zR_set Rl.1 hb.1 ?_ ?_ hP hD) hS L
    · rw [zE_i _ hb]; simp [zcp, va_up]
    · exact fun j hj => zE_ne (by simp [zcp, va_up, hj]) rfl rfl
end ZCALL
end
section
/-! Behind the constructors references are fixed: a memory is ints, longs and the Text that is read into. -/
abbrev Nm : Type := (Nat → Nat → Int32) × (Nat → Nat → Int64) × Nat
def zroL : List (List (Nat × Nat)) := [[(2, 283), (2, 284), (0, 0), (0, 0)], [(0, 0), (0, 0), (0, 0), (0, 0), (1, 1), (1, 2), (1, 3), (0, 0)], [(2, 272), (0, 0), (0, 0), (0, 0), (0, 0), (0, 0), (0, 0), (0, 0), (0, 0), (0, 0), (0, 0)], [(2, 128), (0, 0), (0, 0), (2, 277), (0, 0), (0, 0), (0, 0), (2, 278), (2, 279), (2, 280), (2, 281), (0, 0), (0, 0), (0, 0)], [(1, 1), (0, 0), (0, 0)], [(1, 1), (1, 5), (1, 127), (1, 128), (0, 0), (0, 0), (0, 0), (0, 0), (1, 129), (1, 131), (1, 133)], [(2, 1), (2, 275), (0, 0), (0, 0)], [(1, 1), (1, 2), (1, 3), (0, 0), (1, 4), (0, 0), (1, 5), (1, 6)], [(1, 1), (0, 0)], [(2, 1), (2, 136), (2, 271), (2, 273), (2, 274), (2, 276), (2, 282)], [(2, 314), (2, 315), (2, 316), (2, 317), (0, 0), (0, 0), (0, 0), (0, 0), (0, 0), (0, 0), (0, 0), (0, 0), (0, 0), (0, 0), (0, 0), (2, 318), (0, 0), (0, 0), (0, 0), (0, 0), (2, 319), (2, 320), (2, 321), (0, 0), (0, 0), (2, 322), (2, 323), (2, 324), (2, 325), (2, 326), (2, 327), (2, 328), (0, 0), (2, 329), (2, 330), (2, 331), (2, 332)]]
/-- where a reference field points to -/
def zto (ci j q : Nat) : Nat := match (zroL.getD ci []).getD j (0, 0) with
  | (1, o) => q + o
  | (_, v) => v
def zrf (t q j : Nat) : Option Nat := if q = 271 ∧ j = 10 then (if t = 0 then none else some t) else if (zs q).1 = 23 then some (q + 1 + 4 * j) else if (zs q).1 = 24 then some (285 + 7 * j) else some (zto (zs q).1 j q)
def zem (ν : Nm) : Mm := (ν.1, ν.2.1, zrf ν.2.2)
def gi (ν : Nm) (q j : Nat) : Int32 := ν.1 q j
def gl (ν : Nm) (q j : Nat) : Int64 := ν.2.1 q j
def gx (ν : Nm) : Nat := ν.2.2
def si (ν : Nm) (q j : Nat) (v : Int32) : Nm := (va_up ν.1 q (upd (ν.1 q) j v), ν.2)
def sl (ν : Nm) (q j : Nat) (v : Int64) : Nm := (ν.1, va_up ν.2.1 q (vp_updL (ν.2.1 q) j v), ν.2.2)
def sx (ν : Nm) (t : Nat) : Nm := (ν.1, ν.2.1, t)
def scp (ν : Nm) (a sp b dp k : Nat) : Nm := (va_up ν.1 b (va_cpy (ν.1 a) (ν.1 b) sp dp k), ν.2)
def inb (i : Int32) (n : Nat) : Bool := decide (0 ≤ i) && decide (i.toNatClampNeg < n)
theorem inb_vp {i : Int32} {n : Nat} (h : inb i n = true) : vp_in i n := by
  simp only [inb, Bool.and_eq_true, decide_eq_true_eq] at h
  rintro (h1 | h1)
  · exact Int32.not_le.mpr h1 h.1
  · omega
def b2i (b : Bool) : Int32 := if b then 1 else 0
theorem nar_b2i (b : Bool) : narrow .boolean (.int (b2i b)) = .int (b2i b) := by cases b <;> rfl
theorem vnar_b2i (b : Bool) : vp_nar .boolean (b2i b) = b2i b := by cases b <;> rfl
theorem oif {α : Type} {c : Bool} {X : Option α} {r : α} (h : (if c then X else none) = some r) : c = true ∧ X = some r := by
  cases c
  · cases h
  · exact ⟨rfl, h⟩
theorem oifn {α : Type} {c : Prop} [Decidable c] {X : Option α} {r : α} (h : (if c then none else X) = some r) : ¬ c ∧ X = some r := by
  by_cases hc : c
  · rw [if_pos hc] at h; cases h
  · rw [if_neg hc] at h; exact ⟨hc, h⟩
theorem obind {α β : Type} {o : Option α} {f : α → Option β} {r : β} (h : o.bind f = some r) : ∃ v, o = some v ∧ f v = some r := by
  cases o with
  | none => cases h
  | some v => exact ⟨v, rfl, h⟩
theorem i32ne {x v : Int32} {z : Int} (h : ¬ x = v) (hv : v.toInt = z) : x.toInt ≠ z := fun e => h (Int32.toInt_inj.mp (e.trans hv.symm))
def zcn (ci j : Nat) : Bool := decide (ci < 11) && !(decide (ci = 2) && decide (j = 10))
theorem zcn_spec {ci j : Nat} (h : zcn ci j = true) : ci < 11 ∧ ¬ (ci = 2 ∧ j = 10) := by
  simp only [zcn, Bool.and_eq_true, decide_eq_true_eq, Bool.not_eq_true', Bool.and_eq_false_iff, decide_eq_false_iff_not] at h
  exact ⟨h.1, fun ⟨a, b⟩ => h.2.elim (fun q => q a) (fun q => q b)⟩
theorem oT {α : Type} {c : Prop} [Decidable c] {A B : Option α} {r : α} (hc : c) (h : (if c then A else B) = some r) : A = some r := by rwa [if_pos hc] at h
theorem oF {α : Type} {c : Prop} [Decidable c] {A B : Option α} {r : α} (hc : ¬ c) (h : (if c then A else B) = some r) : B = some r := by rwa [if_neg hc] at h
theorem oFn {α : Type} {c : Prop} [Decidable c] {A B : Option α} {r : α} (hc : c) (h : (if ¬ c then A else B) = some r) : B = some r := by rwa [if_neg (fun q => q hc)] at h
def zkT (t : Nat) : Bool := decide (zs t = (7, 0))
theorem zkT_ok {t : Nat} (h : zkT t = true) : zk 333 t (7, 0) := by
  have h2 : zs t = (7, 0) := of_decide_eq_true h
  refine ⟨?_, h2⟩
  rcases Nat.lt_or_ge t 333 with q | q
  · exact q
  · have e : zs t = (99, 0) := by
      unfold zs
      rw [List.getD_eq_getElem?_getD, List.getElem?_eq_none (by show zsL.length ≤ t; have e2 : zsL.length = 333 := by decide +kernel
                                                                omega)]
      rfl
    rw [e] at h2
    cases h2
theorem zkT_ne {t : Nat} (h : zk 333 t (7, 0)) : t ≠ 0 := by
  rintro rfl
  exact absurd h.2 (by decide +kernel)
theorem dle {a b d : Nat} (h1 : a + 1 ≤ b) (h2 : b ≤ d) : a ≤ d - 1 := Nat.le_sub_of_add_le (Nat.le_trans h1 h2)
theorem dps {b d : Nat} (h1 : 1 ≤ b) (h2 : b ≤ d) : d - 1 + 1 ≤ d := by omega
def zbo (x : Int32) : Bool := decide (x = 0) || decide (x = 1)
theorem zbo_b2i {x : Int32} (h : zbo x = true) : b2i (x != 0) = x := by
  simp only [zbo, Bool.or_eq_true, decide_eq_true_eq] at h
  rcases h with rfl | rfl <;> rfl
theorem zbo_nar {x : Int32} (h : zbo x = true) : vp_nar .boolean x = x := by rw [← zbo_b2i h]; exact vnar_b2i _
theorem fit_b2i (b : Bool) : fits .boolean (.int (b2i b)) = true := by cases b <;> rfl
/-- bounds of loops and of recursion: far above what any run needs -/
def FU : Nat := 1000000000
def FR : Nat := 200
theorem zkoP {q : Nat} {i : Int32} (h : zk 333 q (23, 30)) (hi : inb i 30 = true) : zk 333 (q + 1 + 4 * i.toNatClampNeg) (1, 0) := by
  have hj : i.toNatClampNeg < 30 := by
    simp only [inb, Bool.and_eq_true, decide_eq_true_eq] at hi
    exact hi.2
  have key : ∀ q, q < 333 → zs q = (23, 30) → ∀ j, j < 30 → q + 1 + 4 * j < 333 ∧ zs (q + 1 + 4 * j) = (1, 0) := by decide +kernel
  exact key q h.1 h.2 _ hj
theorem zkoT {i : Int32} (hi : inb i 4 = true) : zk 333 (285 + 7 * i.toNatClampNeg) (7, 0) := by
  have hj : i.toNatClampNeg < 4 := by
    simp only [inb, Bool.and_eq_true, decide_eq_true_eq] at hi
    exact hi.2
  have key : ∀ j, j < 4 → 285 + 7 * j < 333 ∧ zs (285 + 7 * j) = (7, 0) := by decide +kernel
  exact key _ hj
theorem zrf_o {t q j ci : Nat} (hq : zk 333 q (ci, 0)) (hc : ci < 11) (hn : ¬ (ci = 2 ∧ j = 10)) : zrf t q j = some (zto ci j q) := by
  have h2 := hq.2
  unfold zrf
  rw [h2, if_neg, if_neg (by show ¬ ci = 23; omega), if_neg (by show ¬ ci = 24; omega)]
  rintro ⟨e1, e2⟩
  subst e1
  have e3 : zs 271 = (2, 0) := by decide +kernel
  rw [e3] at h2
  exact hn ⟨(congrArg Prod.fst h2).symm, e2⟩
theorem zem_sx (ν : Nm) {t : Nat} (ht : t ≠ 0) : zsr (zem ν) 271 10 (some t) = zem (sx ν t) := by
  unfold zsr zem sx
  refine Prod.ext rfl (Prod.ext rfl ?_)
  funext q j
  show va_up (zrf ν.2.2) 271 (va_up (zrf ν.2.2 271) 10 (some t)) q j = zrf t q j
  unfold va_up
  by_cases hq : q = 271
  · subst hq
    by_cases hj : j = 10
    · subst hj; simp [zrf, ht]
    · simp [zrf, hj]
  · simp [zrf, hq]

theorem zmt1 {w : Cond} (i : Nat) (h : tables_1_1[i]? = some w) (hg : goodWord w = true) : w ∈ zTb := List.mem_filter.mpr ⟨List.mem_append_right _ (List.mem_append_left _ (List.mem_of_getElem? h)), hg⟩
theorem zmt2 {w : Cond} (i : Nat) (h : tables_1_2[i]? = some w) (hg : goodWord w = true) : w ∈ zTb := List.mem_filter.mpr ⟨List.mem_append_right _ (List.mem_append_right _ (List.mem_append_left _ (List.mem_of_getElem? h))), hg⟩
theorem zmt3 {w : Cond} (i : Nat) (h : tables_1_3[i]? = some w) (hg : goodWord w = true) : w ∈ zTb := List.mem_filter.mpr ⟨List.mem_append_right _ (List.mem_append_right _ (List.mem_append_right _ (List.mem_append_left _ (List.mem_of_getElem? h)))), hg⟩
theorem zmt4 {w : Cond} (i : Nat) (h : tables_1_4[i]? = some w) (hg : goodWord w = true) : w ∈ zTb := List.mem_filter.mpr ⟨List.mem_append_right _ (List.mem_append_right _ (List.mem_append_right _ (List.mem_append_right _ (List.mem_append_left _ (List.mem_of_getElem? h))))), hg⟩
theorem zmt5 {w : Cond} (i : Nat) (h : tables_1_5[i]? = some w) (hg : goodWord w = true) : w ∈ zTb := List.mem_filter.mpr ⟨List.mem_append_right _ (List.mem_append_right _ (List.mem_append_right _ (List.mem_append_right _ (List.mem_append_right _ (List.mem_append_left _ (List.mem_of_getElem? h)))))), hg⟩
theorem zmt6 {w : Cond} (i : Nat) (h : tables_1_6[i]? = some w) (hg : goodWord w = true) : w ∈ zTb := List.mem_filter.mpr ⟨List.mem_append_right _ (List.mem_append_right _ (List.mem_append_right _ (List.mem_append_right _ (List.mem_append_right _ (List.mem_append_right _ (List.mem_append_left _ (List.mem_of_getElem? h))))))), hg⟩
theorem zmt7 {w : Cond} (i : Nat) (h : tables_1_7[i]? = some w) (hg : goodWord w = true) : w ∈ zTb := List.mem_filter.mpr ⟨List.mem_append_right _ (List.mem_append_right _ (List.mem_append_right _ (List.mem_append_right _ (List.mem_append_right _ (List.mem_append_right _ (List.mem_append_right _ (List.mem_append_left _ (List.mem_of_getElem? h)))))))), hg⟩
theorem zmt8 {w : Cond} (i : Nat) (h : tables_1_8[i]? = some w) (hg : goodWord w = true) : w ∈ zTb := List.mem_filter.mpr ⟨List.mem_append_right _ (List.mem_append_right _ (List.mem_append_right _ (List.mem_append_right _ (List.mem_append_right _ (List.mem_append_right _ (List.mem_append_right _ (List.mem_append_right _ (List.mem_of_getElem? h)))))))), hg⟩
theorem zmp1 {q : MethodName × Nat} (i : Nat) (h : lw_privs_1[i]? = some q) : Cond.selects q.1.cls q.1 q.1 ∈ zTb := List.mem_filter.mpr ⟨List.mem_append_left _ (List.mem_map.mpr ⟨q, List.mem_append_left _ (List.mem_of_getElem? h), rfl⟩), rfl⟩
theorem zmp2 {q : MethodName × Nat} (i : Nat) (h : lw_privs_2[i]? = some q) : Cond.selects q.1.cls q.1 q.1 ∈ zTb := List.mem_filter.mpr ⟨List.mem_append_left _ (List.mem_map.mpr ⟨q, List.mem_append_right _ (List.mem_append_left _ (List.mem_of_getElem? h)), rfl⟩), rfl⟩
theorem zmp3 {q : MethodName × Nat} (i : Nat) (h : lw_privs_3[i]? = some q) : Cond.selects q.1.cls q.1 q.1 ∈ zTb := List.mem_filter.mpr ⟨List.mem_append_left _ (List.mem_map.mpr ⟨q, List.mem_append_right _ (List.mem_append_right _ (List.mem_append_left _ (List.mem_of_getElem? h))), rfl⟩), rfl⟩
theorem zmp4 {q : MethodName × Nat} (i : Nat) (h : lw_privs_4[i]? = some q) : Cond.selects q.1.cls q.1 q.1 ∈ zTb := List.mem_filter.mpr ⟨List.mem_append_left _ (List.mem_map.mpr ⟨q, List.mem_append_right _ (List.mem_append_right _ (List.mem_append_right _ (List.mem_append_left _ (List.mem_of_getElem? h)))), rfl⟩), rfl⟩
theorem zmp5 {q : MethodName × Nat} (i : Nat) (h : lw_privs_5[i]? = some q) : Cond.selects q.1.cls q.1 q.1 ∈ zTb := List.mem_filter.mpr ⟨List.mem_append_left _ (List.mem_map.mpr ⟨q, List.mem_append_right _ (List.mem_append_right _ (List.mem_append_right _ (List.mem_append_right _ (List.mem_append_left _ (List.mem_of_getElem? h))))), rfl⟩), rfl⟩
theorem zmp6 {q : MethodName × Nat} (i : Nat) (h : lw_privs_6[i]? = some q) : Cond.selects q.1.cls q.1 q.1 ∈ zTb := List.mem_filter.mpr ⟨List.mem_append_left _ (List.mem_map.mpr ⟨q, List.mem_append_right _ (List.mem_append_right _ (List.mem_append_right _ (List.mem_append_right _ (List.mem_append_right _ (List.mem_append_left _ (List.mem_of_getElem? h)))))), rfl⟩), rfl⟩
theorem zmp7 {q : MethodName × Nat} (i : Nat) (h : lw_privs_7[i]? = some q) : Cond.selects q.1.cls q.1 q.1 ∈ zTb := List.mem_filter.mpr ⟨List.mem_append_left _ (List.mem_map.mpr ⟨q, List.mem_append_right _ (List.mem_append_right _ (List.mem_append_right _ (List.mem_append_right _ (List.mem_append_right _ (List.mem_append_right _ (List.mem_append_left _ (List.mem_of_getElem? h))))))), rfl⟩), rfl⟩
theorem zmp8 {q : MethodName × Nat} (i : Nat) (h : lw_privs_8[i]? = some q) : Cond.selects q.1.cls q.1 q.1 ∈ zTb := List.mem_filter.mpr ⟨List.mem_append_left _ (List.mem_map.mpr ⟨q, List.mem_append_right _ (List.mem_append_right _ (List.mem_append_right _ (List.mem_append_right _ (List.mem_append_right _ (List.mem_append_right _ (List.mem_append_right _ (List.mem_append_left _ (List.mem_of_getElem? h)))))))), rfl⟩), rfl⟩
theorem zmp9 {q : MethodName × Nat} (i : Nat) (h : lw_privs_9[i]? = some q) : Cond.selects q.1.cls q.1 q.1 ∈ zTb := List.mem_filter.mpr ⟨List.mem_append_left _ (List.mem_map.mpr ⟨q, List.mem_append_right _ (List.mem_append_right _ (List.mem_append_right _ (List.mem_append_right _ (List.mem_append_right _ (List.mem_append_right _ (List.mem_append_right _ (List.mem_append_right _ (List.mem_of_getElem? h)))))))), rfl⟩), rfl⟩
def imax (x y : Int32) : Int32 := if x < y then y else x
def imin (x y : Int32) : Int32 := if y < x then y else x
def lmax (x y : Int64) : Int64 := if y < x then x else y
def lmin (x y : Int64) : Int64 := if y < x then y else x
def labs (x : Int64) : Int64 := if 0 < x then x else -x
/-- the length of a list told -/
def tl (q : Nat) : Nat := (zs (q + 1)).2
def zmw (y : MethodName) (code : ByteArray) (n : Nat) (ret : Option FieldType) : Prop := Cond.static y ∈ zTb ∧ Cond.initialized "java/lang/Math" ∈ zTb ∧ Cond.code y code n ret ∈ zTb

theorem lk_out {d k : Int} : ∀ {ps : List (Int × Int)}, (∀ q ∈ ps, q.1 ≠ k) → Op.lookupswitch.offset ps d k = d
  | [], _ => rfl
  | (a, o) :: r, h => by
    rw [Op.lookupswitch.offset_cons, if_neg (h (a, o) List.mem_cons_self)]
    exact lk_out (fun q hq => h q (List.mem_cons_of_mem _ hq))

theorem fr_0_0 : zcn 0 0 = true ∧ ∀ q, zto 0 0 q = 283 := ⟨rfl, fun _ => rfl⟩
theorem fr_0_1 : zcn 0 1 = true ∧ ∀ q, zto 0 1 q = 284 := ⟨rfl, fun _ => rfl⟩
theorem fr_1_4 : zcn 1 4 = true ∧ ∀ q, zto 1 4 q = q + 1 := ⟨rfl, fun _ => rfl⟩
theorem fr_1_5 : zcn 1 5 = true ∧ ∀ q, zto 1 5 q = q + 2 := ⟨rfl, fun _ => rfl⟩
theorem fr_1_6 : zcn 1 6 = true ∧ ∀ q, zto 1 6 q = q + 3 := ⟨rfl, fun _ => rfl⟩
theorem fr_2_0 : zcn 2 0 = true ∧ ∀ q, zto 2 0 q = 272 := ⟨rfl, fun _ => rfl⟩
theorem fr_3_0 : zcn 3 0 = true ∧ ∀ q, zto 3 0 q = 128 := ⟨rfl, fun _ => rfl⟩
theorem fr_3_3 : zcn 3 3 = true ∧ ∀ q, zto 3 3 q = 277 := ⟨rfl, fun _ => rfl⟩
theorem fr_3_7 : zcn 3 7 = true ∧ ∀ q, zto 3 7 q = 278 := ⟨rfl, fun _ => rfl⟩
theorem fr_3_8 : zcn 3 8 = true ∧ ∀ q, zto 3 8 q = 279 := ⟨rfl, fun _ => rfl⟩
theorem fr_3_9 : zcn 3 9 = true ∧ ∀ q, zto 3 9 q = 280 := ⟨rfl, fun _ => rfl⟩
theorem fr_3_10 : zcn 3 10 = true ∧ ∀ q, zto 3 10 q = 281 := ⟨rfl, fun _ => rfl⟩
theorem fr_4_0 : zcn 4 0 = true ∧ ∀ q, zto 4 0 q = q + 1 := ⟨rfl, fun _ => rfl⟩
theorem fr_5_0 : zcn 5 0 = true ∧ ∀ q, zto 5 0 q = q + 1 := ⟨rfl, fun _ => rfl⟩
theorem fr_5_1 : zcn 5 1 = true ∧ ∀ q, zto 5 1 q = q + 5 := ⟨rfl, fun _ => rfl⟩
theorem fr_5_2 : zcn 5 2 = true ∧ ∀ q, zto 5 2 q = q + 127 := ⟨rfl, fun _ => rfl⟩
theorem fr_5_3 : zcn 5 3 = true ∧ ∀ q, zto 5 3 q = q + 128 := ⟨rfl, fun _ => rfl⟩
theorem fr_5_8 : zcn 5 8 = true ∧ ∀ q, zto 5 8 q = q + 129 := ⟨rfl, fun _ => rfl⟩
theorem fr_5_9 : zcn 5 9 = true ∧ ∀ q, zto 5 9 q = q + 131 := ⟨rfl, fun _ => rfl⟩
theorem fr_5_10 : zcn 5 10 = true ∧ ∀ q, zto 5 10 q = q + 133 := ⟨rfl, fun _ => rfl⟩
theorem fr_6_0 : zcn 6 0 = true ∧ ∀ q, zto 6 0 q = 1 := ⟨rfl, fun _ => rfl⟩
theorem fr_6_1 : zcn 6 1 = true ∧ ∀ q, zto 6 1 q = 275 := ⟨rfl, fun _ => rfl⟩
theorem fr_7_0 : zcn 7 0 = true ∧ ∀ q, zto 7 0 q = q + 1 := ⟨rfl, fun _ => rfl⟩
theorem fr_7_1 : zcn 7 1 = true ∧ ∀ q, zto 7 1 q = q + 2 := ⟨rfl, fun _ => rfl⟩
theorem fr_7_2 : zcn 7 2 = true ∧ ∀ q, zto 7 2 q = q + 3 := ⟨rfl, fun _ => rfl⟩
theorem fr_7_4 : zcn 7 4 = true ∧ ∀ q, zto 7 4 q = q + 4 := ⟨rfl, fun _ => rfl⟩
theorem fr_7_6 : zcn 7 6 = true ∧ ∀ q, zto 7 6 q = q + 5 := ⟨rfl, fun _ => rfl⟩
theorem fr_7_7 : zcn 7 7 = true ∧ ∀ q, zto 7 7 q = q + 6 := ⟨rfl, fun _ => rfl⟩
theorem fr_8_0 : zcn 8 0 = true ∧ ∀ q, zto 8 0 q = q + 1 := ⟨rfl, fun _ => rfl⟩
theorem fr_9_0 : zcn 9 0 = true ∧ ∀ q, zto 9 0 q = 1 := ⟨rfl, fun _ => rfl⟩
theorem fr_9_1 : zcn 9 1 = true ∧ ∀ q, zto 9 1 q = 136 := ⟨rfl, fun _ => rfl⟩
theorem fr_9_2 : zcn 9 2 = true ∧ ∀ q, zto 9 2 q = 271 := ⟨rfl, fun _ => rfl⟩
theorem fr_9_3 : zcn 9 3 = true ∧ ∀ q, zto 9 3 q = 273 := ⟨rfl, fun _ => rfl⟩
theorem fr_9_4 : zcn 9 4 = true ∧ ∀ q, zto 9 4 q = 274 := ⟨rfl, fun _ => rfl⟩
theorem fr_9_5 : zcn 9 5 = true ∧ ∀ q, zto 9 5 q = 276 := ⟨rfl, fun _ => rfl⟩
theorem fr_9_6 : zcn 9 6 = true ∧ ∀ q, zto 9 6 q = 282 := ⟨rfl, fun _ => rfl⟩
theorem fr_10_0 : zcn 10 0 = true ∧ ∀ q, zto 10 0 q = 314 := ⟨rfl, fun _ => rfl⟩
theorem fr_10_1 : zcn 10 1 = true ∧ ∀ q, zto 10 1 q = 315 := ⟨rfl, fun _ => rfl⟩
theorem fr_10_2 : zcn 10 2 = true ∧ ∀ q, zto 10 2 q = 316 := ⟨rfl, fun _ => rfl⟩
theorem fr_10_3 : zcn 10 3 = true ∧ ∀ q, zto 10 3 q = 317 := ⟨rfl, fun _ => rfl⟩
theorem fr_10_15 : zcn 10 15 = true ∧ ∀ q, zto 10 15 q = 318 := ⟨rfl, fun _ => rfl⟩
theorem fr_10_20 : zcn 10 20 = true ∧ ∀ q, zto 10 20 q = 319 := ⟨rfl, fun _ => rfl⟩
theorem fr_10_21 : zcn 10 21 = true ∧ ∀ q, zto 10 21 q = 320 := ⟨rfl, fun _ => rfl⟩
theorem fr_10_22 : zcn 10 22 = true ∧ ∀ q, zto 10 22 q = 321 := ⟨rfl, fun _ => rfl⟩
theorem fr_10_25 : zcn 10 25 = true ∧ ∀ q, zto 10 25 q = 322 := ⟨rfl, fun _ => rfl⟩
theorem fr_10_26 : zcn 10 26 = true ∧ ∀ q, zto 10 26 q = 323 := ⟨rfl, fun _ => rfl⟩
theorem fr_10_27 : zcn 10 27 = true ∧ ∀ q, zto 10 27 q = 324 := ⟨rfl, fun _ => rfl⟩
theorem fr_10_28 : zcn 10 28 = true ∧ ∀ q, zto 10 28 q = 325 := ⟨rfl, fun _ => rfl⟩
theorem fr_10_29 : zcn 10 29 = true ∧ ∀ q, zto 10 29 q = 326 := ⟨rfl, fun _ => rfl⟩
theorem fr_10_30 : zcn 10 30 = true ∧ ∀ q, zto 10 30 q = 327 := ⟨rfl, fun _ => rfl⟩
theorem fr_10_31 : zcn 10 31 = true ∧ ∀ q, zto 10 31 q = 328 := ⟨rfl, fun _ => rfl⟩
theorem fr_10_33 : zcn 10 33 = true ∧ ∀ q, zto 10 33 q = 329 := ⟨rfl, fun _ => rfl⟩
theorem fr_10_34 : zcn 10 34 = true ∧ ∀ q, zto 10 34 q = 330 := ⟨rfl, fun _ => rfl⟩
theorem fr_10_35 : zcn 10 35 = true ∧ ∀ q, zto 10 35 q = 331 := ⟨rfl, fun _ => rfl⟩
theorem fr_10_36 : zcn 10 36 = true ∧ ∀ q, zto 10 36 q = 332 := ⟨rfl, fun _ => rfl⟩
section YS
variable {g : GG} {d d2 : Nat} {M Y : MM} {pc : Nat} {lv : List (Nat × Value)} {st As stk : List Value} {ν ν2 : Nm} {F : FF} {q ci j idx np : Nat} {fty : FieldType} {fin : Bool}
theorem y_getI (hd : decode (mB M) pc = .ok (.getfield idx, 3)) (hq : zk 333 q (ci, 0)) (hl : zfl (mO M) idx ci j 0 fty fin) (k : Z g d (0, 0) M 333 0 0 (pc + 3) lv (.int (gi ν q j) :: st) (zem ν) F) : Z g d (0, 0) M 333 0 0 pc lv (.ref q :: st) (zem ν) F := z_getI hd hq hl k
theorem y_getL (hd : decode (mB M) pc = .ok (.getfield idx, 3)) (hq : zk 333 q (ci, 0)) (hl : zfl (mO M) idx ci j 1 fty fin) (k : Z g d (0, 0) M 333 0 0 (pc + 3) lv (.long (gl ν q j) :: st) (zem ν) F) : Z g d (0, 0) M 333 0 0 pc lv (.ref q :: st) (zem ν) F := z_getL hd hq hl k
theorem y_getR {r : Nat} (hd : decode (mB M) pc = .ok (.getfield idx, 3)) (hq : zk 333 q (ci, 0)) (hl : zfl (mO M) idx ci j 2 fty fin) (hcn : zcn ci j = true) (hr : zto ci j q = r) (k : Z g d (0, 0) M 333 0 0 (pc + 3) lv (.ref r :: st) (zem ν) F) : Z g d (0, 0) M 333 0 0 pc lv (.ref q :: st) (zem ν) F := z_getR hd hq hl (by rw [← hr]; exact zrf_o hq (zcn_spec hcn).1 (zcn_spec hcn).2) k
theorem y_getT (hd : decode (mB M) pc = .ok (.getfield idx, 3)) (hq : zk 333 271 (2, 0)) (hl : zfl (mO M) idx 2 10 2 fty fin) (ht : zk 333 (gx ν) (7, 0)) (k : Z g d (0, 0) M 333 0 0 (pc + 3) lv (.ref (gx ν) :: st) (zem ν) F) : Z g d (0, 0) M 333 0 0 pc lv (.ref 271 :: st) (zem ν) F := z_getR hd hq hl (by show zrf ν.2.2 271 10 = some ν.2.2; unfold zrf; rw [if_pos ⟨rfl, rfl⟩]; exact if_neg (zkT_ne ht)) k
theorem y_putI {x : Int32} (hd : decode (mB M) pc = .ok (.putfield idx, 3)) (hq : zk 333 q (ci, 0)) (hl : zfl (mO M) idx ci j 0 fty false) (hn : narrow fty (.int x) = .int x ∧ fits fty (.int x) = true) (k : Z g d (0, 0) M 333 0 0 (pc + 3) lv st (zem (si ν q j x)) F) : Z g d (0, 0) M 333 0 0 pc lv (.int x :: .ref q :: st) (zem ν) F := z_putI hd hq hl hn k
theorem y_putL {x : Int64} (hd : decode (mB M) pc = .ok (.putfield idx, 3)) (hq : zk 333 q (ci, 0)) (hl : zfl (mO M) idx ci j 1 fty false) (hn : narrow fty (.long x) = .long x ∧ fits fty (.long x) = true) (k : Z g d (0, 0) M 333 0 0 (pc + 3) lv st (zem (sl ν q j x)) F) : Z g d (0, 0) M 333 0 0 pc lv (.long x :: .ref q :: st) (zem ν) F := z_putL hd hq hl hn k
theorem y_putT {t : Nat} (hd : decode (mB M) pc = .ok (.putfield idx, 3)) (hq : zk 333 271 (2, 0)) (hl : zfl (mO M) idx 2 10 2 fty false) (ht : zk 333 t (7, 0)) (hn : ∀ a, narrow fty (.ref a) = .ref a ∧ fits fty (.ref a) = true) (k : Z g d (0, 0) M 333 0 0 (pc + 3) lv st (zem (sx ν t)) F) : Z g d (0, 0) M 333 0 0 pc lv (.ref t :: .ref 271 :: st) (zem ν) F := z_putR hd hq hl hn (by rw [zem_sx ν (zkT_ne ht)]; exact k)
theorem y_iald {i : Int32} {L0 jj : Nat} (hd : decode (mB M) pc = .ok (.iaload, 1)) (hq : zk 333 q (20, L0)) (hi : inb i L0 = true) (hj : i.toNatClampNeg = jj) (k : Z g d (0, 0) M 333 0 0 (pc + 1) lv (.int (gi ν q jj) :: st) (zem ν) F) : Z g d (0, 0) M 333 0 0 pc lv (.int i :: .ref q :: st) (zem ν) F := z_iald hd hq (inb_vp hi) (by rw [hj]; exact k)
theorem y_lald {i : Int32} {L0 jj : Nat} (hd : decode (mB M) pc = .ok (.laload, 1)) (hq : zk 333 q (21, L0)) (hi : inb i L0 = true) (hj : i.toNatClampNeg = jj) (k : Z g d (0, 0) M 333 0 0 (pc + 1) lv (.long (gl ν q jj) :: st) (zem ν) F) : Z g d (0, 0) M 333 0 0 pc lv (.int i :: .ref q :: st) (zem ν) F := z_lald hd hq (inb_vp hi) (by rw [hj]; exact k)
theorem y_zald {i : Int32} {L0 jj : Nat} (hd : decode (mB M) pc = .ok (.baload, 1)) (hq : zk 333 q (22, L0)) (hi : inb i L0 = true) (hj : i.toNatClampNeg = jj) (k : Z g d (0, 0) M 333 0 0 (pc + 1) lv (.int (gi ν q jj) :: st) (zem ν) F) : Z g d (0, 0) M 333 0 0 pc lv (.int i :: .ref q :: st) (zem ν) F := z_zald hd hq (inb_vp hi) (by rw [hj]; exact k)
theorem y_iast {i x : Int32} {L0 jj : Nat} (hd : decode (mB M) pc = .ok (.iastore, 1)) (hq : zk 333 q (20, L0)) (hi : inb i L0 = true) (hj : i.toNatClampNeg = jj) (k : Z g d (0, 0) M 333 0 0 (pc + 1) lv st (zem (si ν q jj x)) F) : Z g d (0, 0) M 333 0 0 pc lv (.int x :: .int i :: .ref q :: st) (zem ν) F := z_iast hd hq (inb_vp hi) (by rw [hj]; exact k)
theorem y_last {i : Int32} {x : Int64} {L0 jj : Nat} (hd : decode (mB M) pc = .ok (.lastore, 1)) (hq : zk 333 q (21, L0)) (hi : inb i L0 = true) (hj : i.toNatClampNeg = jj) (k : Z g d (0, 0) M 333 0 0 (pc + 1) lv st (zem (sl ν q jj x)) F) : Z g d (0, 0) M 333 0 0 pc lv (.long x :: .int i :: .ref q :: st) (zem ν) F := z_last hd hq (inb_vp hi) (by rw [hj]; exact k)
theorem y_zast {i x : Int32} {L0 jj : Nat} (hd : decode (mB M) pc = .ok (.bastore, 1)) (hq : zk 333 q (22, L0)) (hi : inb i L0 = true) (hj : i.toNatClampNeg = jj) (hx : vp_nar .boolean x = x) (k : Z g d (0, 0) M 333 0 0 (pc + 1) lv st (zem (si ν q jj x)) F) : Z g d (0, 0) M 333 0 0 pc lv (.int x :: .int i :: .ref q :: st) (zem ν) F := z_zast hd hq (inb_vp hi) (by rw [hx, hj]; exact k)
theorem y_aaldP {i : Int32} (hd : decode (mB M) pc = .ok (.aaload, 1)) (hq : zk 333 q (23, 30)) (hi : inb i 30 = true) (k : Z g d (0, 0) M 333 0 0 (pc + 1) lv (.ref (q + 1 + 4 * i.toNatClampNeg) :: st) (zem ν) F) : Z g d (0, 0) M 333 0 0 pc lv (.int i :: .ref q :: st) (zem ν) F := z_aaldP hd hq (inb_vp hi) (by show zrf ν.2.2 q _ = _; unfold zrf; rw [hq.2, if_neg (by rintro ⟨e, -⟩; subst e; exact absurd hq.2 (by decide +kernel)), if_pos rfl]) k
theorem y_aaldT {i : Int32} (hd : decode (mB M) pc = .ok (.aaload, 1)) (hq : zk 333 q (24, 4)) (hi : inb i 4 = true) (k : Z g d (0, 0) M 333 0 0 (pc + 1) lv (.ref (285 + 7 * i.toNatClampNeg) :: st) (zem ν) F) : Z g d (0, 0) M 333 0 0 pc lv (.int i :: .ref q :: st) (zem ν) F := z_aaldT hd hq (inb_vp hi) (by show zrf ν.2.2 q _ = _; unfold zrf; rw [hq.2, if_neg (by rintro ⟨e, -⟩; subst e; exact absurd hq.2 (by decide +kernel)), if_neg (by decide), if_pos rfl]) k
theorem y_copy {a b L0 L1 : Nat} {sp dp k : Int32} (hd : decode (mB M) pc = .ok (.invokestatic idx, 3)) (hw : Cond.methodLink (mO M) idx arraycopyName ∈ zTb ∧ Cond.native arraycopyName ∈ zTb ∧ Cond.static arraycopyName ∈ zTb ∧ Cond.initialized "java/lang/System" ∈ zTb) (ha : zk 333 a (20, L0)) (hb : zk 333 b (20, L1)) (h : ¬ sp < 0 ∧ ¬ dp < 0 ∧ ¬ k < 0 ∧ sp.toNatClampNeg + k.toNatClampNeg ≤ L0 ∧ dp.toNatClampNeg + k.toNatClampNeg ≤ L1) (hdd : 1 ≤ d) (hW : (st.map fun v => v.category).sum ≤ 8) {sp1 dp1 k1 : Nat} (e1 : sp.toNatClampNeg = sp1) (e2 : dp.toNatClampNeg = dp1) (e3 : k.toNatClampNeg = k1) (kk : Z g d (0, 0) M 333 0 0 (pc + 3) lv st (zem (scp ν a sp1 b dp1 k1)) F) : Z g d (0, 0) M 333 0 0 pc lv (.int k :: .int dp :: .ref b :: .int sp :: .ref a :: st) (zem ν) F := z_copy hd hw ha hb h hdd hW (by rw [e1, e2, e3]; exact kk)
theorem y_Vi {v : Int32} (hd : decode (mB M) pc = .ok (.invokevirtual idx, 3)) (hw : Cond.methodLink (mO M) idx Y.1 ∈ zTb) (hY : zcV Y ci np) (hq : zk 333 q (ci, 0)) {μ μ2 : Mm} (hC : Ct g d2 Y (.ref q :: As) μ (some (.int v), μ2)) (hdd : d2 + 1 ≤ d) (hn : As.length = np) (hs : As.reverse ++ .ref q :: st = stk) (hW : (st.map fun v => v.category).sum ≤ 8) (k : Z g d (0, 0) M 333 0 0 (pc + 3) lv (.int v :: st) μ2 F) : Z g d (0, 0) M 333 0 0 pc lv stk μ F := z_callV hd hw hY hq hC hdd hn hs hW k
theorem y_Vl {v : Int64} (hd : decode (mB M) pc = .ok (.invokevirtual idx, 3)) (hw : Cond.methodLink (mO M) idx Y.1 ∈ zTb) (hY : zcV Y ci np) (hq : zk 333 q (ci, 0)) {μ μ2 : Mm} (hC : Ct g d2 Y (.ref q :: As) μ (some (.long v), μ2)) (hdd : d2 + 1 ≤ d) (hn : As.length = np) (hs : As.reverse ++ .ref q :: st = stk) (hW : (st.map fun v => v.category).sum ≤ 8) (k : Z g d (0, 0) M 333 0 0 (pc + 3) lv (.long v :: st) μ2 F) : Z g d (0, 0) M 333 0 0 pc lv stk μ F := z_callV hd hw hY hq hC hdd hn hs hW k
theorem y_Vv  (hd : decode (mB M) pc = .ok (.invokevirtual idx, 3)) (hw : Cond.methodLink (mO M) idx Y.1 ∈ zTb) (hY : zcV Y ci np) (hq : zk 333 q (ci, 0)) {μ μ2 : Mm} (hC : Ct g d2 Y (.ref q :: As) μ (none, μ2)) (hdd : d2 + 1 ≤ d) (hn : As.length = np) (hs : As.reverse ++ .ref q :: st = stk) (hW : (st.map fun v => v.category).sum ≤ 8) (k : Z g d (0, 0) M 333 0 0 (pc + 3) lv st μ2 F) : Z g d (0, 0) M 333 0 0 pc lv stk μ F := z_callV hd hw hY hq hC hdd hn hs hW k
theorem y_Si {v : Int32} (hd : decode (mB M) pc = .ok (.invokestatic idx, 3)) (hw : Cond.methodLink (mO M) idx Y.1 ∈ zTb) (hY : zcS Y np) {μ μ2 : Mm} (hC : Ct g d2 Y As μ (some (.int v), μ2)) (hdd : d2 + 1 ≤ d) (hn : As.length = np) (hs : As.reverse ++ st = stk) (hW : (st.map fun v => v.category).sum ≤ 8) (k : Z g d (0, 0) M 333 0 0 (pc + 3) lv (.int v :: st) μ2 F) : Z g d (0, 0) M 333 0 0 pc lv stk μ F := z_callS hd hw hY hC hdd hn hs hW k
theorem y_Sl {v : Int64} (hd : decode (mB M) pc = .ok (.invokestatic idx, 3)) (hw : Cond.methodLink (mO M) idx Y.1 ∈ zTb) (hY : zcS Y np) {μ μ2 : Mm} (hC : Ct g d2 Y As μ (some (.long v), μ2)) (hdd : d2 + 1 ≤ d) (hn : As.length = np) (hs : As.reverse ++ st = stk) (hW : (st.map fun v => v.category).sum ≤ 8) (k : Z g d (0, 0) M 333 0 0 (pc + 3) lv (.long v :: st) μ2 F) : Z g d (0, 0) M 333 0 0 pc lv stk μ F := z_callS hd hw hY hC hdd hn hs hW k
theorem y_Sv  (hd : decode (mB M) pc = .ok (.invokestatic idx, 3)) (hw : Cond.methodLink (mO M) idx Y.1 ∈ zTb) (hY : zcS Y np) {μ μ2 : Mm} (hC : Ct g d2 Y As μ (none, μ2)) (hdd : d2 + 1 ≤ d) (hn : As.length = np) (hs : As.reverse ++ st = stk) (hW : (st.map fun v => v.category).sum ≤ 8) (k : Z g d (0, 0) M 333 0 0 (pc + 3) lv st μ2 F) : Z g d (0, 0) M 333 0 0 pc lv stk μ F := z_callS hd hw hY hC hdd hn hs hW k
theorem y_Ni {v : Int32} (hd : decode (mB M) pc = .ok (.invokestatic idx, 3)) (hw : (mO M, idx, Y.1) ∈ zNm) (hY : zcS Y np) {μ μ2 : Mm} (hC : Ct g d2 Y As μ (some (.int v), μ2)) (hdd : d2 + 1 ≤ d) (hn : As.length = np) (hs : As.reverse ++ st = stk) (hW : (st.map fun v => v.category).sum ≤ 8) (k : Z g d (0, 0) M 333 0 0 (pc + 3) lv (.int v :: st) μ2 F) : Z g d (0, 0) M 333 0 0 pc lv stk μ F := z_callSN hd hw hY hC hdd hn hs hW k
theorem y_Nl {v : Int64} (hd : decode (mB M) pc = .ok (.invokestatic idx, 3)) (hw : (mO M, idx, Y.1) ∈ zNm) (hY : zcS Y np) {μ μ2 : Mm} (hC : Ct g d2 Y As μ (some (.long v), μ2)) (hdd : d2 + 1 ≤ d) (hn : As.length = np) (hs : As.reverse ++ st = stk) (hW : (st.map fun v => v.category).sum ≤ 8) (k : Z g d (0, 0) M 333 0 0 (pc + 3) lv (.long v :: st) μ2 F) : Z g d (0, 0) M 333 0 0 pc lv stk μ F := z_callSN hd hw hY hC hdd hn hs hW k
theorem y_Nv  (hd : decode (mB M) pc = .ok (.invokestatic idx, 3)) (hw : (mO M, idx, Y.1) ∈ zNm) (hY : zcS Y np) {μ μ2 : Mm} (hC : Ct g d2 Y As μ (none, μ2)) (hdd : d2 + 1 ≤ d) (hn : As.length = np) (hs : As.reverse ++ st = stk) (hW : (st.map fun v => v.category).sum ≤ 8) (k : Z g d (0, 0) M 333 0 0 (pc + 3) lv st μ2 F) : Z g d (0, 0) M 333 0 0 pc lv stk μ F := z_callSN hd hw hY hC hdd hn hs hW k
theorem y_mmax {μ : Mm} {x y : Int32} (hd : decode (mB M) pc = .ok (.invokestatic idx, 3)) (hw : Cond.methodLink (mO M) idx Lib.Math.max.name ∈ zTb) (hm : zmw Lib.Math.max.name Lib.Math.max.code 2 (some .int)) (hdd : 1 ≤ d) (hW : (st.map fun v => v.category).sum ≤ 8) (k : Z g d (0, 0) M 333 0 0 (pc + 3) lv (.int (imax x y) :: st) μ F) : Z g d (0, 0) M 333 0 0 pc lv (.int y :: .int x :: st) μ F := by
  intro p e s m args below meth c R H locs ls C Rl S L
  have hts := C.2.2.2.2.2.1
  have hfr := C.2.2.2.2.2.2.2.2.2
  refine va_mmax C.1 C.2.1 (C.2.2.2.1.trans L.1.symm) C.2.2.2.2.1 (hts _ hw) (hts _ hm.1) (hts _ hm.2.1) (hts _ hm.2.2) (Nat.le_trans hdd hfr.1) ?_ (Nat.zero_le _) (Nat.zero_le _) hd (k p e s m args below meth c R H locs ls C Rl S L)
  show ((zv g st).map fun v => v.category).sum + _ ≤ _
  rw [zcat]
  have := hfr.2.1
  omega
theorem y_mmin {μ : Mm} {x y : Int32} (hd : decode (mB M) pc = .ok (.invokestatic idx, 3)) (hw : Cond.methodLink (mO M) idx Lib.Math.min.name ∈ zTb) (hm : zmw Lib.Math.min.name Lib.Math.min.code 2 (some .int)) (hdd : 1 ≤ d) (hW : (st.map fun v => v.category).sum ≤ 8) (k : Z g d (0, 0) M 333 0 0 (pc + 3) lv (.int (imin x y) :: st) μ F) : Z g d (0, 0) M 333 0 0 pc lv (.int y :: .int x :: st) μ F := by
  intro p e s m args below meth c R H locs ls C Rl S L
  have hts := C.2.2.2.2.2.1
  have hfr := C.2.2.2.2.2.2.2.2.2
  refine va_mmin C.1 C.2.1 (C.2.2.2.1.trans L.1.symm) C.2.2.2.2.1 (hts _ hw) (hts _ hm.1) (hts _ hm.2.1) (hts _ hm.2.2) (Nat.le_trans hdd hfr.1) ?_ (Nat.zero_le _) (Nat.zero_le _) hd (k p e s m args below meth c R H locs ls C Rl S L)
  show ((zv g st).map fun v => v.category).sum + _ ≤ _
  rw [zcat]
  have := hfr.2.1
  omega
theorem y_lmax {μ : Mm} {x y : Int64} (hd : decode (mB M) pc = .ok (.invokestatic idx, 3)) (hw : Cond.methodLink (mO M) idx Lib.MathLoose.max_long.x ∈ zTb) (hm : zmw Lib.MathLoose.max_long.x Lib.MathLoose.max_long.code 4 (some .long)) (hdd : 1 ≤ d) (hW : (st.map fun v => v.category).sum ≤ 8) (k : Z g d (0, 0) M 333 0 0 (pc + 3) lv (.long (lmax x y) :: st) μ F) : Z g d (0, 0) M 333 0 0 pc lv (.long y :: .long x :: st) μ F := by
  intro p e s m args below meth c R H locs ls C Rl S L
  have hts := C.2.2.2.2.2.1
  have hfr := C.2.2.2.2.2.2.2.2.2
  refine va_mmax_long C.1 C.2.1 (C.2.2.2.1.trans L.1.symm) C.2.2.2.2.1 (hts _ hw) (hts _ hm.1) (hts _ hm.2.1) (hts _ hm.2.2) (Nat.le_trans hdd hfr.1) ?_ (Nat.zero_le _) (Nat.zero_le _) hd (k p e s m args below meth c R H locs ls C Rl S L)
  show ((zv g st).map fun v => v.category).sum + _ ≤ _
  rw [zcat]
  have := hfr.2.1
  omega
theorem y_lmin {μ : Mm} {x y : Int64} (hd : decode (mB M) pc = .ok (.invokestatic idx, 3)) (hw : Cond.methodLink (mO M) idx Lib.MathLoose.min_long.x ∈ zTb) (hm : zmw Lib.MathLoose.min_long.x Lib.MathLoose.min_long.code 4 (some .long)) (hdd : 1 ≤ d) (hW : (st.map fun v => v.category).sum ≤ 8) (k : Z g d (0, 0) M 333 0 0 (pc + 3) lv (.long (lmin x y) :: st) μ F) : Z g d (0, 0) M 333 0 0 pc lv (.long y :: .long x :: st) μ F := by
  intro p e s m args below meth c R H locs ls C Rl S L
  have hts := C.2.2.2.2.2.1
  have hfr := C.2.2.2.2.2.2.2.2.2
  refine va_mmin_long C.1 C.2.1 (C.2.2.2.1.trans L.1.symm) C.2.2.2.2.1 (hts _ hw) (hts _ hm.1) (hts _ hm.2.1) (hts _ hm.2.2) (Nat.le_trans hdd hfr.1) ?_ (Nat.zero_le _) (Nat.zero_le _) hd (k p e s m args below meth c R H locs ls C Rl S L)
  show ((zv g st).map fun v => v.category).sum + _ ≤ _
  rw [zcat]
  have := hfr.2.1
  omega
theorem y_labs {μ : Mm} {x : Int64} (hd : decode (mB M) pc = .ok (.invokestatic idx, 3)) (hw : Cond.methodLink (mO M) idx Lib.MathLoose.abs_long.x ∈ zTb) (hm : zmw Lib.MathLoose.abs_long.x Lib.MathLoose.abs_long.code 2 (some .long)) (hdd : 1 ≤ d) (hW : (st.map fun v => v.category).sum ≤ 8) (k : Z g d (0, 0) M 333 0 0 (pc + 3) lv (.long (labs x) :: st) μ F) : Z g d (0, 0) M 333 0 0 pc lv (.long x :: st) μ F := by
  intro p e s m args below meth c R H locs ls C Rl S L
  have hts := C.2.2.2.2.2.1
  have hfr := C.2.2.2.2.2.2.2.2.2
  refine va_mabs_long C.1 C.2.1 (C.2.2.2.1.trans L.1.symm) C.2.2.2.2.1 (hts _ hw) (hts _ hm.1) (hts _ hm.2.1) (hts _ hm.2.2) (Nat.le_trans hdd hfr.1) ?_ (Nat.zero_le _) (Nat.zero_le _) hd (k p e s m args below meth c R H locs ls C Rl S L)
  show ((zv g st).map fun v => v.category).sum + _ ≤ _
  rw [zcat]
  have := hfr.2.1
  omega
/-- a switch: the number is one of the row's -/
theorem y_sw {μ : Mm} {dflt lo hi : Int} {offs : Array Int} {len : Nat} {x : Int32} {off : Int} (v : Int32) (z : Int) (tgt : Nat) (hd : decode (mB M) pc = .ok (.tableswitch dflt lo hi offs, len)) (hx : x = v) (hv : v.toInt = z) (h1 : lo ≤ z) (h2 : z ≤ hi) (ho : offs[(z - lo).toNat]? = some off) (ht : (pc : Int) + off = (tgt : Int)) (k : Z g d (0, 0) M 333 0 0 tgt lv st μ F) : Z g d (0, 0) M 333 0 0 pc lv (.int x :: st) μ F := by
  subst hx
  exact z_tableIn tgt hd (by rw [hv]; omega) (by rw [hv]; omega) (by rw [hv]; exact ho) ht k
theorem y_lk {μ : Mm} {dflt : Int} {ps : Array (Int × Int)} {len : Nat} {x : Int32} {off : Int} (v : Int32) (z : Int) (tgt : Nat) (hd : decode (mB M) pc = .ok (.lookupswitch dflt ps, len)) (hp : (ps.toList.zip (ps.toList.drop 1)).all (fun (a, next) => a.1 < next.1) = true) (hx : x = v) (hv : v.toInt = z) (ho : Op.lookupswitch.offset ps.toList dflt z = off) (ht : (pc : Int) + off = (tgt : Int)) (k : Z g d (0, 0) M 333 0 0 tgt lv st μ F) : Z g d (0, 0) M 333 0 0 pc lv (.int x :: st) μ F := by
  subst hx
  exact z_lookup tgt hd hp (by rw [hv]; exact ho) ht k
theorem zret_o {μ : Mm} {x : Int32} (hx : zbo x = true) (hd : decode (mB M) pc = .ok (.ireturn, 1)) (hr : mR M = some .boolean) : Z g d (0, 0) M 333 0 0 pc lv [.int x] μ (zF g (some (.int (b2i (x != 0))), μ)) := by
  have e := zbo_b2i hx
  have k : Z g d (0, 0) M 333 0 0 pc lv [.int (b2i (x != 0))] μ (zF g (some (.int (b2i (x != 0))), μ)) := z_zret hd hr (nar_b2i _)
  rw [e] at k ⊢
  exact k
theorem y_entry {μ : Mm} {r : Option Value × Mm} (hY : zin Y) (hA : (lg_sl As).length ≤ mL Y) (hl : lv_args 0 As = lv) (h : Z g d (0, 0) Y 333 0 0 0 lv [] μ (zF g r)) : Ct g d Y As μ r := z_entry hY hA (by rw [hl]; exact h)
end YS
end
section
/-! The texts: rows that read a String constant. -/
def zch (x : Int32) : Bool := decide ((x.toUInt32 % 65536).toInt32 = x)
theorem zch_nar {x : Int32} (h : zch x = true) : narrow .char (.int x) = .int x := by
  have e : (x.toUInt32 % 65536).toInt32 = x := of_decide_eq_true h
  rw [← e]
  exact pk_nc _
section SS
variable {g : GG} {d d2 : Nat} {M Y : MM} {pc n idx np : Nat} {lv : List (Nat × Value)} {st As stk : List Value} {μ : Mm} {F : FF}
theorem y_sldc0 {b : Nat × Option FieldType} {cc : ByteArray} {nm ds : String} (hd : decode cc pc = .ok (.ldc zS0, 2)) (k : Z g d (0, 0) (⟨RX3, nm, ds⟩, cc, b) 333 0 0 (pc + 2) lv (.ref (1002 + 0) :: st) μ F) : Z g d (0, 0) (⟨RX3, nm, ds⟩, cc, b) 333 0 0 pc lv st μ F := fun p e s m args below meth c R H locs ls C Rl S L => va_ldcS C.1 C.2.1 C.2.2.2.2.1 C.2.2.2.2.2.2.2.2.1.2.2.2.2.1.2.2.1 hd (k p e s m args below meth c R H locs ls C Rl S L)
theorem y_sldc1 {b : Nat × Option FieldType} {cc : ByteArray} {nm ds : String} (hd : decode cc pc = .ok (.ldc zS1, 2)) (k : Z g d (0, 0) (⟨RX3, nm, ds⟩, cc, b) 333 0 0 (pc + 2) lv (.ref (1002 + 1) :: st) μ F) : Z g d (0, 0) (⟨RX3, nm, ds⟩, cc, b) 333 0 0 pc lv st μ F := fun p e s m args below meth c R H locs ls C Rl S L => va_ldcS C.1 C.2.1 C.2.2.2.2.1 C.2.2.2.2.2.2.2.2.1.2.2.2.2.1.2.2.2 hd (k p e s m args below meth c R H locs ls C Rl S L)
theorem y_compact (hd : decode (mB M) pc = .ok (.getstatic idx, 3)) (hw : Cond.fieldLink (mO M) idx RJ0 "COMPACT_STRINGS" "Z" ∈ zTb) (k : Z g d (0, 0) M 333 0 0 (pc + 3) lv (.int 1 :: st) μ F) : Z g d (0, 0) M 333 0 0 pc lv st μ F := fun p e s m args below meth c R H locs ls C Rl S L => va_gets C.1 C.2.1 C.2.2.2.2.2.2.2.2.1.2.2.2.2.2.2.1 S C.2.2.2.2.1 (C.2.2.2.2.2.1 _ hw) (fun _ h => h) hd (k p e s m args below meth c R H locs ls C Rl S L)
theorem y_scod (hd : decode (mB M) pc = .ok (.getfield idx, 3)) (hw : Cond.fieldLink (mO M) idx RJ0 "coder" "B" ∈ zTb) (hn : n < 2) (k : Z g d (0, 0) M 333 0 0 (pc + 3) lv (.int 0 :: st) μ F) : Z g d (0, 0) M 333 0 0 pc lv (.ref (1002 + n) :: st) μ F := fun p e s m args below meth c R H locs ls C Rl S L => vk_getf C.1 C.2.1 (C.2.2.2.2.2.2.2.2.1.2.2.2.2.2.1.1 n hn).2.1 S C.2.2.2.2.1 (C.2.2.2.2.2.1 _ hw) (fun _ h => h) hd (k p e s m args below meth c R H locs ls C Rl S L)
theorem y_sval (hd : decode (mB M) pc = .ok (.getfield idx, 3)) (hw : Cond.fieldLink (mO M) idx RJ0 "value" "[B" ∈ zTb) (hn : n < 2) (k : Z g d (0, 0) M 333 0 0 (pc + 3) lv (.ref (1004 + n) :: st) μ F) : Z g d (0, 0) M 333 0 0 pc lv (.ref (1002 + n) :: st) μ F := fun p e s m args below meth c R H locs ls C Rl S L => vk_getf C.1 C.2.1 (C.2.2.2.2.2.2.2.2.1.2.2.2.2.2.1.1 n hn).2.2.1 S C.2.2.2.2.1 (C.2.2.2.2.2.1 _ hw) (fun _ h => h) hd (k p e s m args below meth c R H locs ls C Rl S L)
theorem y_slen (hd : decode (mB M) pc = .ok (.arraylength, 1)) (hn : n < 2) (k : Z g d (0, 0) M 333 0 0 (pc + 1) lv (.int (Int32.ofNat (slen n)) :: st) μ F) : Z g d (0, 0) M 333 0 0 pc lv (.ref (1004 + n) :: st) μ F := fun p e s m args below meth c R H locs ls C Rl S L => va_tlen C.1 C.2.1 (C.2.2.2.2.2.2.2.2.1.2.2.2.2.2.1.1 n hn).2.2.2 S rfl hd (k p e s m args below meth c R H locs ls C Rl S L)
theorem y_sbyt {i : Int32} (hd : decode (mB M) pc = .ok (.baload, 1)) (hn : n < 2) (hi : inb i (slen n) = true) (k : Z g d (0, 0) M 333 0 0 (pc + 1) lv (.int (sbyt n i.toNatClampNeg) :: st) μ F) : Z g d (0, 0) M 333 0 0 pc lv (.int i :: .ref (1004 + n) :: st) μ F := fun p e s m args below meth c R H locs ls C Rl S L => va_tb C.1 C.2.1 (C.2.2.2.2.2.2.2.2.1.2.2.2.2.2.1.1 n hn).2.2.2 S (inb_vp hi) rfl hd (k p e s m args below meth c R H locs ls C Rl S L)
theorem y_fmt (hd : decode (mB M) pc = .ok (.getstatic idx, 3)) (hw : Cond.fieldLink (mO M) idx RJ3 "SIOOBE_FORMATTER" "Ljava/util/function/BiFunction;" ∈ zTb) (k : ∀ v, v = Value.null ∨ v = Value.ref 1006 → Z g d (0, 0) M 333 0 0 (pc + 3) lv (v :: st) μ F) : Z g d (0, 0) M 333 0 0 pc lv st μ F := by
  intro p e s m args below meth c R H locs ls C Rl S L
  rcases C.2.2.2.2.2.2.2.2.1.2.2.2.2.2.2.2 with h | h
  · exact va_gets C.1 C.2.1 h S C.2.2.2.2.1 (C.2.2.2.2.2.1 _ hw) (fun _ h => h) hd (k .null (Or.inl rfl) p e s m args below meth c R H locs ls C Rl S L)
  · exact va_gets C.1 C.2.1 h S C.2.2.2.2.1 (C.2.2.2.2.2.1 _ hw) (fun _ h => h) hd (k (.ref 1006) (Or.inr rfl) p e s m args below meth c R H locs ls C Rl S L)
def zcW (Y : MM) (np : Nat) : Prop := zcy Y np ∧ Y.1.cls = RJ0 ∧ Cond.instanceMethod Y.1 ∈ zTb ∧ Cond.selects Y.1.cls Y.1 Y.1 ∈ zTb
theorem z_callW {r : Option Value × Mm} (hd : decode (mB M) pc = .ok (.invokevirtual idx, 3)) (hw : Cond.methodLink (mO M) idx Y.1 ∈ zTb) (hY : zcW Y np) (hq : n < 2) (hC : Ct g d2 Y (.ref (1002 + n) :: As) μ r) (hdd : d2 + 1 ≤ d) (hn : As.length = np) (hs : As.reverse ++ .ref (1002 + n) :: st = stk) (hW : (st.map fun v => v.category).sum ≤ 8) (k : Z g d (0, 0) M 333 0 0 (pc + 3) lv (r.1.toList ++ st) r.2 F) : Z g d (0, 0) M 333 0 0 pc lv stk μ F := by
  intro p e s m args below meth c R H locs ls C Rl S L
  obtain ⟨⟨hin, hml, hini, hy1, hy2, hnp⟩, hci, hins, hsel⟩ := hY
  have hts := C.2.2.2.2.2.1
  have hfr := C.2.2.2.2.2.2.2.2.2
  have cw : CallW R s args (mO M) Y.1.cls idx Y.1 (mB Y) (mL Y) (mR Y) (zws Y) (zrm d2) 0 0 np := ⟨callB_of np hts (zGood hin) rfl rfl rfl (hts _ hini) (hts _ hw) ⟨hy1, hy2, hnp⟩ ⟨Nat.le_trans hdd hfr.1, by show 8 + (mL Y + 11) + 64 * d2 ≤ R.locals; have := hfr.2.1; omega⟩, hts _ hins, hts _ hsel⟩
  have hrec := vk_recv C.2.2.2.2.2.2.2.2.1.2.2.2.2.2.1 hq S
  have hrec2 : ∃ cell : Cell, H[gA g (1002 + n)]? = some cell ∧ cell.vm.isStatics = false ∧ s.vm.findClass Y.1.cls = some cell.cls := by
    rw [hci]; exact hrec
  have hrun := va_runV (e := e) (below := below) (meth := meth) (locs := locs) (cells := 0) (slots := 0) (As := zv g As) (rest := zv g st) (g := F0 m pc ls (zv g stk)) (nL := mL M) ⟨C.1, C.2.1, C.2.2.2.1, C.2.2.2.2.1, hts⟩ hC cw ⟨zPc_blind, hrec2, zPc_at (As := .ref (1002 + n) :: As) Rl C.2.2.2.2.2.2.2.2.1 S⟩ rfl (by simp [zv, hn]) L.1 (by rw [← hs]; simp [zv, tr]) (lv_room (by rw [zcat]; exact hW)) hd ⟨Nat.zero_le _, Nat.zero_le _⟩
  exact z_goes hrun C Rl S L k
theorem y_Wi {v : Int32} {μ2 : Mm} (hd : decode (mB M) pc = .ok (.invokevirtual idx, 3)) (hw : Cond.methodLink (mO M) idx Y.1 ∈ zTb) (hY : zcW Y np) (hq : n < 2) (hC : Ct g d2 Y (.ref (1002 + n) :: As) μ (some (.int v), μ2)) (hdd : d2 + 1 ≤ d) (hn : As.length = np) (hs : As.reverse ++ .ref (1002 + n) :: st = stk) (hW : (st.map fun v => v.category).sum ≤ 8) (k : Z g d (0, 0) M 333 0 0 (pc + 3) lv (.int v :: st) μ2 F) : Z g d (0, 0) M 333 0 0 pc lv stk μ F := z_callW hd hw hY hq hC hdd hn hs hW k
theorem y_Wv  {μ2 : Mm} (hd : decode (mB M) pc = .ok (.invokevirtual idx, 3)) (hw : Cond.methodLink (mO M) idx Y.1 ∈ zTb) (hY : zcW Y np) (hq : n < 2) (hC : Ct g d2 Y (.ref (1002 + n) :: As) μ (none, μ2)) (hdd : d2 + 1 ≤ d) (hn : As.length = np) (hs : As.reverse ++ .ref (1002 + n) :: st = stk) (hW : (st.map fun v => v.category).sum ≤ 8) (k : Z g d (0, 0) M 333 0 0 (pc + 3) lv st μ2 F) : Z g d (0, 0) M 333 0 0 pc lv stk μ F := z_callW hd hw hY hq hC hdd hn hs hW k
end SS
end
section
/-! What the tables say, by its place; the methods; the cells. -/
theorem layX0 : ∀ k, k < 4 → u_lay RX0 TX0 k ∈ zTb
  | 0, _ => by show u_lay RX0 TX0 0 ∈ zTb; exact zmt2 52 rfl rfl
  | 1, _ => by show u_lay RX0 TX0 1 ∈ zTb; exact zmt2 54 rfl rfl
  | 2, _ => by show u_lay RX0 TX0 2 ∈ zTb; exact zmt2 56 rfl rfl
  | 3, _ => by show u_lay RX0 TX0 3 ∈ zTb; exact zmt2 58 rfl rfl
  | k + 4, h => absurd h (by omega)
theorem zcX0 : zcl 0 RX0 TX0 4 tyX0 := ⟨rfl, rfl, by decide, fun w hw => by obtain ⟨k, hk, e⟩ := List.mem_map.mp hw; rw [← e]; exact layX0 k (List.mem_range.mp hk), tyX0_ok, nmX0⟩
theorem layX2 : ∀ k, k < 8 → u_lay RX2 TX2 k ∈ zTb
  | 0, _ => by show u_lay RX2 TX2 0 ∈ zTb; exact zmt1 62 rfl rfl
  | 1, _ => by show u_lay RX2 TX2 1 ∈ zTb; exact zmt1 64 rfl rfl
  | 2, _ => by show u_lay RX2 TX2 2 ∈ zTb; exact zmt1 66 rfl rfl
  | 3, _ => by show u_lay RX2 TX2 3 ∈ zTb; exact zmt1 68 rfl rfl
  | 4, _ => by show u_lay RX2 TX2 4 ∈ zTb; exact zmt1 70 rfl rfl
  | 5, _ => by show u_lay RX2 TX2 5 ∈ zTb; exact zmt1 72 rfl rfl
  | 6, _ => by show u_lay RX2 TX2 6 ∈ zTb; exact zmt1 74 rfl rfl
  | 7, _ => by show u_lay RX2 TX2 7 ∈ zTb; exact zmt1 76 rfl rfl
  | k + 8, h => absurd h (by omega)
theorem zcX2 : zcl 1 RX2 TX2 8 tyX2 := ⟨rfl, rfl, by decide, fun w hw => by obtain ⟨k, hk, e⟩ := List.mem_map.mp hw; rw [← e]; exact layX2 k (List.mem_range.mp hk), tyX2_ok, nmX2⟩
theorem layX3 : ∀ k, k < 11 → u_lay RX3 TX3 k ∈ zTb
  | 0, _ => by show u_lay RX3 TX3 0 ∈ zTb; exact zmt1 185 rfl rfl
  | 1, _ => by show u_lay RX3 TX3 1 ∈ zTb; exact zmt1 187 rfl rfl
  | 2, _ => by show u_lay RX3 TX3 2 ∈ zTb; exact zmt1 189 rfl rfl
  | 3, _ => by show u_lay RX3 TX3 3 ∈ zTb; exact zmt1 191 rfl rfl
  | 4, _ => by show u_lay RX3 TX3 4 ∈ zTb; exact zmt1 193 rfl rfl
  | 5, _ => by show u_lay RX3 TX3 5 ∈ zTb; exact zmt1 195 rfl rfl
  | 6, _ => by show u_lay RX3 TX3 6 ∈ zTb; exact zmt1 197 rfl rfl
  | 7, _ => by show u_lay RX3 TX3 7 ∈ zTb; exact zmt1 199 rfl rfl
  | 8, _ => by show u_lay RX3 TX3 8 ∈ zTb; exact zmt1 201 rfl rfl
  | 9, _ => by show u_lay RX3 TX3 9 ∈ zTb; exact zmt1 203 rfl rfl
  | 10, _ => by show u_lay RX3 TX3 10 ∈ zTb; exact zmt1 205 rfl rfl
  | k + 11, h => absurd h (by omega)
theorem zcX3 : zcl 2 RX3 TX3 11 tyX3 := ⟨rfl, rfl, by decide, fun w hw => by obtain ⟨k, hk, e⟩ := List.mem_map.mp hw; rw [← e]; exact layX3 k (List.mem_range.mp hk), tyX3_ok, nmX3⟩
theorem layX4 : ∀ k, k < 14 → u_lay RX4 TX4 k ∈ zTb
  | 0, _ => by show u_lay RX4 TX4 0 ∈ zTb; exact zmt2 11 rfl rfl
  | 1, _ => by show u_lay RX4 TX4 1 ∈ zTb; exact zmt2 13 rfl rfl
  | 2, _ => by show u_lay RX4 TX4 2 ∈ zTb; exact zmt2 15 rfl rfl
  | 3, _ => by show u_lay RX4 TX4 3 ∈ zTb; exact zmt2 17 rfl rfl
  | 4, _ => by show u_lay RX4 TX4 4 ∈ zTb; exact zmt2 19 rfl rfl
  | 5, _ => by show u_lay RX4 TX4 5 ∈ zTb; exact zmt2 21 rfl rfl
  | 6, _ => by show u_lay RX4 TX4 6 ∈ zTb; exact zmt2 23 rfl rfl
  | 7, _ => by show u_lay RX4 TX4 7 ∈ zTb; exact zmt2 25 rfl rfl
  | 8, _ => by show u_lay RX4 TX4 8 ∈ zTb; exact zmt2 27 rfl rfl
  | 9, _ => by show u_lay RX4 TX4 9 ∈ zTb; exact zmt2 29 rfl rfl
  | 10, _ => by show u_lay RX4 TX4 10 ∈ zTb; exact zmt2 31 rfl rfl
  | 11, _ => by show u_lay RX4 TX4 11 ∈ zTb; exact zmt2 33 rfl rfl
  | 12, _ => by show u_lay RX4 TX4 12 ∈ zTb; exact zmt2 35 rfl rfl
  | 13, _ => by show u_lay RX4 TX4 13 ∈ zTb; exact zmt2 37 rfl rfl
  | k + 14, h => absurd h (by omega)
theorem zcX4 : zcl 3 RX4 TX4 14 tyX4 := ⟨rfl, rfl, by decide, fun w hw => by obtain ⟨k, hk, e⟩ := List.mem_map.mp hw; rw [← e]; exact layX4 k (List.mem_range.mp hk), tyX4_ok, nmX4⟩
theorem layX5 : ∀ k, k < 3 → u_lay RX5 TX5 k ∈ zTb
  | 0, _ => by show u_lay RX5 TX5 0 ∈ zTb; exact zmt1 93 rfl rfl
  | 1, _ => by show u_lay RX5 TX5 1 ∈ zTb; exact zmt1 95 rfl rfl
  | 2, _ => by show u_lay RX5 TX5 2 ∈ zTb; exact zmt1 97 rfl rfl
  | k + 3, h => absurd h (by omega)
theorem zcX5 : zcl 4 RX5 TX5 3 tyX5 := ⟨rfl, rfl, by decide, fun w hw => by obtain ⟨k, hk, e⟩ := List.mem_map.mp hw; rw [← e]; exact layX5 k (List.mem_range.mp hk), tyX5_ok, nmX5⟩
theorem layX6 : ∀ k, k < 11 → u_lay RX6 TX6 k ∈ zTb
  | 0, _ => by show u_lay RX6 TX6 0 ∈ zTb; exact zmt1 142 rfl rfl
  | 1, _ => by show u_lay RX6 TX6 1 ∈ zTb; exact zmt1 144 rfl rfl
  | 2, _ => by show u_lay RX6 TX6 2 ∈ zTb; exact zmt1 146 rfl rfl
  | 3, _ => by show u_lay RX6 TX6 3 ∈ zTb; exact zmt1 148 rfl rfl
  | 4, _ => by show u_lay RX6 TX6 4 ∈ zTb; exact zmt1 150 rfl rfl
  | 5, _ => by show u_lay RX6 TX6 5 ∈ zTb; exact zmt1 152 rfl rfl
  | 6, _ => by show u_lay RX6 TX6 6 ∈ zTb; exact zmt1 154 rfl rfl
  | 7, _ => by show u_lay RX6 TX6 7 ∈ zTb; exact zmt1 156 rfl rfl
  | 8, _ => by show u_lay RX6 TX6 8 ∈ zTb; exact zmt1 158 rfl rfl
  | 9, _ => by show u_lay RX6 TX6 9 ∈ zTb; exact zmt1 160 rfl rfl
  | 10, _ => by show u_lay RX6 TX6 10 ∈ zTb; exact zmt1 162 rfl rfl
  | k + 11, h => absurd h (by omega)
theorem zcX6 : zcl 5 RX6 TX6 11 tyX6 := ⟨rfl, rfl, by decide, fun w hw => by obtain ⟨k, hk, e⟩ := List.mem_map.mp hw; rw [← e]; exact layX6 k (List.mem_range.mp hk), tyX6_ok, nmX6⟩
theorem layX7 : ∀ k, k < 4 → u_lay RX7 TX7 k ∈ zTb
  | 0, _ => by show u_lay RX7 TX7 0 ∈ zTb; exact zmt1 220 rfl rfl
  | 1, _ => by show u_lay RX7 TX7 1 ∈ zTb; exact zmt1 222 rfl rfl
  | 2, _ => by show u_lay RX7 TX7 2 ∈ zTb; exact zmt1 224 rfl rfl
  | 3, _ => by show u_lay RX7 TX7 3 ∈ zTb; exact zmt1 226 rfl rfl
  | k + 4, h => absurd h (by omega)
theorem zcX7 : zcl 6 RX7 TX7 4 tyX7 := ⟨rfl, rfl, by decide, fun w hw => by obtain ⟨k, hk, e⟩ := List.mem_map.mp hw; rw [← e]; exact layX7 k (List.mem_range.mp hk), tyX7_ok, nmX7⟩
theorem layX9 : ∀ k, k < 8 → u_lay RX9 TX9 k ∈ zTb
  | 0, _ => by show u_lay RX9 TX9 0 ∈ zTb; exact zmt2 84 rfl rfl
  | 1, _ => by show u_lay RX9 TX9 1 ∈ zTb; exact zmt2 86 rfl rfl
  | 2, _ => by show u_lay RX9 TX9 2 ∈ zTb; exact zmt2 88 rfl rfl
  | 3, _ => by show u_lay RX9 TX9 3 ∈ zTb; exact zmt2 90 rfl rfl
  | 4, _ => by show u_lay RX9 TX9 4 ∈ zTb; exact zmt2 92 rfl rfl
  | 5, _ => by show u_lay RX9 TX9 5 ∈ zTb; exact zmt2 94 rfl rfl
  | 6, _ => by show u_lay RX9 TX9 6 ∈ zTb; exact zmt2 96 rfl rfl
  | 7, _ => by show u_lay RX9 TX9 7 ∈ zTb; exact zmt2 98 rfl rfl
  | k + 8, h => absurd h (by omega)
theorem zcX9 : zcl 7 RX9 TX9 8 tyX9 := ⟨rfl, rfl, by decide, fun w hw => by obtain ⟨k, hk, e⟩ := List.mem_map.mp hw; rw [← e]; exact layX9 k (List.mem_range.mp hk), tyX9_ok, nmX9⟩
theorem layX10 : ∀ k, k < 2 → u_lay RX10 TX10 k ∈ zTb
  | 0, _ => by show u_lay RX10 TX10 0 ∈ zTb; exact zmt1 112 rfl rfl
  | 1, _ => by show u_lay RX10 TX10 1 ∈ zTb; exact zmt1 114 rfl rfl
  | k + 2, h => absurd h (by omega)
theorem zcX10 : zcl 8 RX10 TX10 2 tyX10 := ⟨rfl, rfl, by decide, fun w hw => by obtain ⟨k, hk, e⟩ := List.mem_map.mp hw; rw [← e]; exact layX10 k (List.mem_range.mp hk), tyX10_ok, nmX10⟩
theorem layX11 : ∀ k, k < 7 → u_lay RX11 TX11 k ∈ zTb
  | 0, _ => by show u_lay RX11 TX11 0 ∈ zTb; exact zmt2 108 rfl rfl
  | 1, _ => by show u_lay RX11 TX11 1 ∈ zTb; exact zmt2 110 rfl rfl
  | 2, _ => by show u_lay RX11 TX11 2 ∈ zTb; exact zmt2 112 rfl rfl
  | 3, _ => by show u_lay RX11 TX11 3 ∈ zTb; exact zmt2 114 rfl rfl
  | 4, _ => by show u_lay RX11 TX11 4 ∈ zTb; exact zmt2 116 rfl rfl
  | 5, _ => by show u_lay RX11 TX11 5 ∈ zTb; exact zmt2 118 rfl rfl
  | 6, _ => by show u_lay RX11 TX11 6 ∈ zTb; exact zmt2 120 rfl rfl
  | k + 7, h => absurd h (by omega)
theorem zcX11 : zcl 9 RX11 TX11 7 tyX11 := ⟨rfl, rfl, by decide, fun w hw => by obtain ⟨k, hk, e⟩ := List.mem_map.mp hw; rw [← e]; exact layX11 k (List.mem_range.mp hk), tyX11_ok, nmX11⟩
theorem layX12 : ∀ k, k < 37 → u_lay RX12 TX12 k ∈ zTb
  | 0, _ => by show u_lay RX12 TX12 0 ∈ zTb; exact zmt6 19 rfl rfl
  | 1, _ => by show u_lay RX12 TX12 1 ∈ zTb; exact zmt6 21 rfl rfl
  | 2, _ => by show u_lay RX12 TX12 2 ∈ zTb; exact zmt6 23 rfl rfl
  | 3, _ => by show u_lay RX12 TX12 3 ∈ zTb; exact zmt6 25 rfl rfl
  | 4, _ => by show u_lay RX12 TX12 4 ∈ zTb; exact zmt6 27 rfl rfl
  | 5, _ => by show u_lay RX12 TX12 5 ∈ zTb; exact zmt6 29 rfl rfl
  | 6, _ => by show u_lay RX12 TX12 6 ∈ zTb; exact zmt6 31 rfl rfl
  | 7, _ => by show u_lay RX12 TX12 7 ∈ zTb; exact zmt6 33 rfl rfl
  | 8, _ => by show u_lay RX12 TX12 8 ∈ zTb; exact zmt6 35 rfl rfl
  | 9, _ => by show u_lay RX12 TX12 9 ∈ zTb; exact zmt6 37 rfl rfl
  | 10, _ => by show u_lay RX12 TX12 10 ∈ zTb; exact zmt6 39 rfl rfl
  | 11, _ => by show u_lay RX12 TX12 11 ∈ zTb; exact zmt6 41 rfl rfl
  | 12, _ => by show u_lay RX12 TX12 12 ∈ zTb; exact zmt6 43 rfl rfl
  | 13, _ => by show u_lay RX12 TX12 13 ∈ zTb; exact zmt6 45 rfl rfl
  | 14, _ => by show u_lay RX12 TX12 14 ∈ zTb; exact zmt6 47 rfl rfl
  | 15, _ => by show u_lay RX12 TX12 15 ∈ zTb; exact zmt6 49 rfl rfl
  | 16, _ => by show u_lay RX12 TX12 16 ∈ zTb; exact zmt6 51 rfl rfl
  | 17, _ => by show u_lay RX12 TX12 17 ∈ zTb; exact zmt6 53 rfl rfl
  | 18, _ => by show u_lay RX12 TX12 18 ∈ zTb; exact zmt6 55 rfl rfl
  | 19, _ => by show u_lay RX12 TX12 19 ∈ zTb; exact zmt6 57 rfl rfl
  | 20, _ => by show u_lay RX12 TX12 20 ∈ zTb; exact zmt6 59 rfl rfl
  | 21, _ => by show u_lay RX12 TX12 21 ∈ zTb; exact zmt6 61 rfl rfl
  | 22, _ => by show u_lay RX12 TX12 22 ∈ zTb; exact zmt6 63 rfl rfl
  | 23, _ => by show u_lay RX12 TX12 23 ∈ zTb; exact zmt6 65 rfl rfl
  | 24, _ => by show u_lay RX12 TX12 24 ∈ zTb; exact zmt6 67 rfl rfl
  | 25, _ => by show u_lay RX12 TX12 25 ∈ zTb; exact zmt6 69 rfl rfl
  | 26, _ => by show u_lay RX12 TX12 26 ∈ zTb; exact zmt6 71 rfl rfl
  | 27, _ => by show u_lay RX12 TX12 27 ∈ zTb; exact zmt6 73 rfl rfl
  | 28, _ => by show u_lay RX12 TX12 28 ∈ zTb; exact zmt6 75 rfl rfl
  | 29, _ => by show u_lay RX12 TX12 29 ∈ zTb; exact zmt6 77 rfl rfl
  | 30, _ => by show u_lay RX12 TX12 30 ∈ zTb; exact zmt6 79 rfl rfl
  | 31, _ => by show u_lay RX12 TX12 31 ∈ zTb; exact zmt6 81 rfl rfl
  | 32, _ => by show u_lay RX12 TX12 32 ∈ zTb; exact zmt6 83 rfl rfl
  | 33, _ => by show u_lay RX12 TX12 33 ∈ zTb; exact zmt6 85 rfl rfl
  | 34, _ => by show u_lay RX12 TX12 34 ∈ zTb; exact zmt6 87 rfl rfl
  | 35, _ => by show u_lay RX12 TX12 35 ∈ zTb; exact zmt6 89 rfl rfl
  | 36, _ => by show u_lay RX12 TX12 36 ∈ zTb; exact zmt6 91 rfl rfl
  | k + 37, h => absurd h (by omega)
theorem zcX12 : zcl 10 RX12 TX12 37 tyX12 := ⟨rfl, rfl, by decide, fun w hw => by obtain ⟨k, hk, e⟩ := List.mem_map.mp hw; rw [← e]; exact layX12 k (List.mem_range.mp hk), tyX12_ok, nmX12⟩
theorem flRX11_12 : zfl RX11 12 9 0 2 (.object "FuseMinutes$Store") true := ⟨_, _, _, _, zcX11, Nat.le_of_ble_eq_true rfl, zmt2 101 rfl rfl, rfl, rfl, rfl, rfl⟩
theorem flRX11_16 : zfl RX11 16 9 1 2 (.object "FuseMinutes$Store") true := ⟨_, _, _, _, zcX11, Nat.le_of_ble_eq_true rfl, zmt2 102 rfl rfl, rfl, rfl, rfl, rfl⟩
theorem flRX11_22 : zfl RX11 22 9 2 2 (.object "FuseMinutes$Reader") true := ⟨_, _, _, _, zcX11, Nat.le_of_ble_eq_true rfl, zmt2 103 rfl rfl, rfl, rfl, rfl, rfl⟩
theorem flRX11_28 : zfl RX11 28 9 3 2 (.array (.object "FuseMinutes$Text")) true := ⟨_, _, _, _, zcX11, Nat.le_of_ble_eq_true rfl, zmt2 104 rfl rfl, rfl, rfl, rfl, rfl⟩
theorem flRX11_37 : zfl RX11 37 9 4 2 (.object "FuseMinutes$Sums") true := ⟨_, _, _, _, zcX11, Nat.le_of_ble_eq_true rfl, zmt2 105 rfl rfl, rfl, rfl, rfl, rfl⟩
theorem flRX11_43 : zfl RX11 43 5 2 2 (.array .int) true := ⟨_, _, _, _, zcX6, Nat.le_of_ble_eq_true rfl, zmt1 123 rfl rfl, rfl, rfl, rfl, rfl⟩
theorem flRX11_50 : zfl RX11 50 9 5 2 (.object "FuseMinutes$Rows") true := ⟨_, _, _, _, zcX11, Nat.le_of_ble_eq_true rfl, zmt2 106 rfl rfl, rfl, rfl, rfl, rfl⟩
theorem flRX11_57 : zfl RX11 57 9 6 2 (.object "FuseMinutes$Bundles") true := ⟨_, _, _, _, zcX11, Nat.le_of_ble_eq_true rfl, zmt2 107 rfl rfl, rfl, rfl, rfl, rfl⟩
theorem flRX11_62 : zfl RX11 62 5 0 2 (.object "FuseMinutes$Pit") true := ⟨_, _, _, _, zcX6, Nat.le_of_ble_eq_true rfl, zmt1 118 rfl rfl, rfl, rfl, rfl, rfl⟩
theorem flRX11_66 : zfl RX11 66 1 0 0 .int false := ⟨_, _, _, _, zcX2, Nat.le_of_ble_eq_true rfl, zmt1 44 rfl rfl, rfl, rfl, rfl, rfl⟩
theorem flRX11_76 : zfl RX11 76 5 3 2 (.array .int) true := ⟨_, _, _, _, zcX6, Nat.le_of_ble_eq_true rfl, zmt1 126 rfl rfl, rfl, rfl, rfl, rfl⟩
theorem flRX11_86 : zfl RX11 86 5 5 0 .int false := ⟨_, _, _, _, zcX6, Nat.le_of_ble_eq_true rfl, zmt1 131 rfl rfl, rfl, rfl, rfl, rfl⟩
theorem flRX11_89 : zfl RX11 89 2 1 0 .int false := ⟨_, _, _, _, zcX3, Nat.le_of_ble_eq_true rfl, zmt1 173 rfl rfl, rfl, rfl, rfl, rfl⟩
theorem flRX11_95 : zfl RX11 95 5 6 0 .int false := ⟨_, _, _, _, zcX6, Nat.le_of_ble_eq_true rfl, zmt1 133 rfl rfl, rfl, rfl, rfl, rfl⟩
theorem flRX11_101 : zfl RX11 101 2 2 0 .int false := ⟨_, _, _, _, zcX3, Nat.le_of_ble_eq_true rfl, zmt1 175 rfl rfl, rfl, rfl, rfl, rfl⟩
theorem flRX11_104 : zfl RX11 104 2 3 0 .int false := ⟨_, _, _, _, zcX3, Nat.le_of_ble_eq_true rfl, zmt1 177 rfl rfl, rfl, rfl, rfl, rfl⟩
theorem flRX11_111 : zfl RX11 111 5 7 0 .int false := ⟨_, _, _, _, zcX6, Nat.le_of_ble_eq_true rfl, zmt1 135 rfl rfl, rfl, rfl, rfl, rfl⟩
theorem flRX11_118 : zfl RX11 118 5 1 2 (.object "FuseMinutes$Steps") true := ⟨_, _, _, _, zcX6, Nat.le_of_ble_eq_true rfl, zmt1 121 rfl rfl, rfl, rfl, rfl, rfl⟩
theorem flRX11_156 : zfl RX11 156 7 3 0 .int false := ⟨_, _, _, _, zcX9, Nat.le_of_ble_eq_true rfl, zmt2 73 rfl rfl, rfl, rfl, rfl, rfl⟩
theorem flRX11_159 : zfl RX11 159 7 0 2 (.array .int) true := ⟨_, _, _, _, zcX9, Nat.le_of_ble_eq_true rfl, zmt2 67 rfl rfl, rfl, rfl, rfl, rfl⟩
theorem flRX11_162 : zfl RX11 162 7 1 2 (.array .int) true := ⟨_, _, _, _, zcX9, Nat.le_of_ble_eq_true rfl, zmt2 69 rfl rfl, rfl, rfl, rfl, rfl⟩
theorem flRX11_165 : zfl RX11 165 7 2 2 (.array .int) true := ⟨_, _, _, _, zcX9, Nat.le_of_ble_eq_true rfl, zmt2 71 rfl rfl, rfl, rfl, rfl, rfl⟩
theorem flRX11_171 : zfl RX11 171 1 2 0 .int false := ⟨_, _, _, _, zcX2, Nat.le_of_ble_eq_true rfl, zmt1 50 rfl rfl, rfl, rfl, rfl, rfl⟩
theorem flRX11_180 : zfl RX11 180 1 1 0 .int false := ⟨_, _, _, _, zcX2, Nat.le_of_ble_eq_true rfl, zmt1 48 rfl rfl, rfl, rfl, rfl, rfl⟩
theorem flRX11_187 : zfl RX11 187 4 2 0 .int false := ⟨_, _, _, _, zcX5, Nat.le_of_ble_eq_true rfl, zmt1 92 rfl rfl, rfl, rfl, rfl, rfl⟩
theorem flRX11_193 : zfl RX11 193 1 4 2 (.array .int) true := ⟨_, _, _, _, zcX2, Nat.le_of_ble_eq_true rfl, zmt1 55 rfl rfl, rfl, rfl, rfl, rfl⟩
theorem flRX11_196 : zfl RX11 196 1 5 2 (.array .int) true := ⟨_, _, _, _, zcX2, Nat.le_of_ble_eq_true rfl, zmt1 57 rfl rfl, rfl, rfl, rfl, rfl⟩
theorem flRX11_199 : zfl RX11 199 5 4 0 .int false := ⟨_, _, _, _, zcX6, Nat.le_of_ble_eq_true rfl, zmt1 129 rfl rfl, rfl, rfl, rfl, rfl⟩
theorem flRX11_208 : zfl RX11 208 1 3 0 .int false := ⟨_, _, _, _, zcX2, Nat.le_of_ble_eq_true rfl, zmt1 52 rfl rfl, rfl, rfl, rfl, rfl⟩
theorem flRX11_214 : zfl RX11 214 1 7 0 .int false := ⟨_, _, _, _, zcX2, Nat.le_of_ble_eq_true rfl, zmt1 61 rfl rfl, rfl, rfl, rfl, rfl⟩
theorem flRX11_217 : zfl RX11 217 1 6 2 (.array .int) true := ⟨_, _, _, _, zcX2, Nat.le_of_ble_eq_true rfl, zmt1 59 rfl rfl, rfl, rfl, rfl, rfl⟩
theorem flRX11_257 : zfl RX11 257 3 2 0 .int false := ⟨_, _, _, _, zcX4, Nat.le_of_ble_eq_true rfl, zmt1 239 rfl rfl, rfl, rfl, rfl, rfl⟩
theorem flRX11_263 : zfl RX11 263 3 1 0 .int false := ⟨_, _, _, _, zcX4, Nat.le_of_ble_eq_true rfl, zmt1 237 rfl rfl, rfl, rfl, rfl, rfl⟩
theorem flRX11_272 : zfl RX11 272 5 8 2 (.object "FuseMinutes$Told") true := ⟨_, _, _, _, zcX6, Nat.le_of_ble_eq_true rfl, zmt1 137 rfl rfl, rfl, rfl, rfl, rfl⟩
theorem flRX11_276 : zfl RX11 276 8 1 0 .int false := ⟨_, _, _, _, zcX10, Nat.le_of_ble_eq_true rfl, zmt1 111 rfl rfl, rfl, rfl, rfl, rfl⟩
theorem flRX11_304 : zfl RX11 304 5 9 2 (.object "FuseMinutes$Told") true := ⟨_, _, _, _, zcX6, Nat.le_of_ble_eq_true rfl, zmt1 139 rfl rfl, rfl, rfl, rfl, rfl⟩
theorem flRX11_336 : zfl RX11 336 5 10 2 (.object "FuseMinutes$Told") true := ⟨_, _, _, _, zcX6, Nat.le_of_ble_eq_true rfl, zmt1 141 rfl rfl, rfl, rfl, rfl, rfl⟩
theorem flRX11_391 : zfl RX11 391 0 0 2 (.array .int) true := ⟨_, _, _, _, zcX0, Nat.le_of_ble_eq_true rfl, zmt2 48 rfl rfl, rfl, rfl, rfl, rfl⟩
theorem flRX11_394 : zfl RX11 394 8 0 2 (.array .int) true := ⟨_, _, _, _, zcX10, Nat.le_of_ble_eq_true rfl, zmt1 108 rfl rfl, rfl, rfl, rfl, rfl⟩
theorem flRX0_9 : zfl RX0 9 0 0 2 (.array .int) true := ⟨_, _, _, _, zcX0, Nat.le_of_ble_eq_true rfl, zmt2 47 rfl rfl, rfl, rfl, rfl, rfl⟩
theorem flRX0_15 : zfl RX0 15 0 1 2 (.array .int) true := ⟨_, _, _, _, zcX0, Nat.le_of_ble_eq_true rfl, zmt2 49 rfl rfl, rfl, rfl, rfl, rfl⟩
theorem flRX0_24 : zfl RX0 24 0 2 0 .int false := ⟨_, _, _, _, zcX0, Nat.le_of_ble_eq_true rfl, zmt2 50 rfl rfl, rfl, rfl, rfl, rfl⟩
theorem flRX0_30 : zfl RX0 30 0 3 1 .long false := ⟨_, _, _, _, zcX0, Nat.le_of_ble_eq_true rfl, zmt2 51 rfl rfl, rfl, rfl, rfl, rfl⟩
theorem flRX2_9 : zfl RX2 9 1 2 0 .int false := ⟨_, _, _, _, zcX2, Nat.le_of_ble_eq_true rfl, zmt1 49 rfl rfl, rfl, rfl, rfl, rfl⟩
theorem flRX2_15 : zfl RX2 15 1 4 2 (.array .int) true := ⟨_, _, _, _, zcX2, Nat.le_of_ble_eq_true rfl, zmt1 53 rfl rfl, rfl, rfl, rfl, rfl⟩
theorem flRX2_19 : zfl RX2 19 1 5 2 (.array .int) true := ⟨_, _, _, _, zcX2, Nat.le_of_ble_eq_true rfl, zmt1 56 rfl rfl, rfl, rfl, rfl, rfl⟩
theorem flRX2_22 : zfl RX2 22 1 6 2 (.array .int) true := ⟨_, _, _, _, zcX2, Nat.le_of_ble_eq_true rfl, zmt1 58 rfl rfl, rfl, rfl, rfl, rfl⟩
theorem flRX2_25 : zfl RX2 25 1 0 0 .int false := ⟨_, _, _, _, zcX2, Nat.le_of_ble_eq_true rfl, zmt1 43 rfl rfl, rfl, rfl, rfl, rfl⟩
theorem flRX2_28 : zfl RX2 28 1 1 0 .int false := ⟨_, _, _, _, zcX2, Nat.le_of_ble_eq_true rfl, zmt1 46 rfl rfl, rfl, rfl, rfl, rfl⟩
theorem flRX2_31 : zfl RX2 31 1 3 0 .int false := ⟨_, _, _, _, zcX2, Nat.le_of_ble_eq_true rfl, zmt1 51 rfl rfl, rfl, rfl, rfl, rfl⟩
theorem flRX2_34 : zfl RX2 34 1 7 0 .int false := ⟨_, _, _, _, zcX2, Nat.le_of_ble_eq_true rfl, zmt1 60 rfl rfl, rfl, rfl, rfl, rfl⟩
theorem flRX3_9 : zfl RX3 9 2 0 2 (.array .int) true := ⟨_, _, _, _, zcX3, Nat.le_of_ble_eq_true rfl, zmt1 171 rfl rfl, rfl, rfl, rfl, rfl⟩
theorem flRX3_15 : zfl RX3 15 2 2 0 .int false := ⟨_, _, _, _, zcX3, Nat.le_of_ble_eq_true rfl, zmt1 174 rfl rfl, rfl, rfl, rfl, rfl⟩
theorem flRX3_19 : zfl RX3 19 2 3 0 .int false := ⟨_, _, _, _, zcX3, Nat.le_of_ble_eq_true rfl, zmt1 176 rfl rfl, rfl, rfl, rfl, rfl⟩
theorem flRX3_22 : zfl RX3 22 2 1 0 .int false := ⟨_, _, _, _, zcX3, Nat.le_of_ble_eq_true rfl, zmt1 172 rfl rfl, rfl, rfl, rfl, rfl⟩
theorem flRX3_25 : zfl RX3 25 2 10 2 (.object "FuseMinutes$Text") false := ⟨_, _, _, _, zcX3, Nat.le_of_ble_eq_true rfl, zmt1 184 rfl rfl, rfl, rfl, rfl, rfl⟩
theorem flRX3_34 : zfl RX3 34 2 4 0 .int false := ⟨_, _, _, _, zcX3, Nat.le_of_ble_eq_true rfl, zmt1 178 rfl rfl, rfl, rfl, rfl, rfl⟩
theorem flRX3_37 : zfl RX3 37 2 8 0 .int false := ⟨_, _, _, _, zcX3, Nat.le_of_ble_eq_true rfl, zmt1 182 rfl rfl, rfl, rfl, rfl, rfl⟩
theorem flRX3_43 : zfl RX3 43 2 5 0 .int false := ⟨_, _, _, _, zcX3, Nat.le_of_ble_eq_true rfl, zmt1 179 rfl rfl, rfl, rfl, rfl, rfl⟩
theorem flRX3_66 : zfl RX3 66 2 9 0 .int false := ⟨_, _, _, _, zcX3, Nat.le_of_ble_eq_true rfl, zmt1 183 rfl rfl, rfl, rfl, rfl, rfl⟩
theorem flRX3_69 : zfl RX3 69 7 6 2 (.array .int) true := ⟨_, _, _, _, zcX9, Nat.le_of_ble_eq_true rfl, zmt2 80 rfl rfl, rfl, rfl, rfl, rfl⟩
theorem flRX3_72 : zfl RX3 72 7 5 0 .int false := ⟨_, _, _, _, zcX9, Nat.le_of_ble_eq_true rfl, zmt2 77 rfl rfl, rfl, rfl, rfl, rfl⟩
theorem flRX3_76 : zfl RX3 76 7 7 2 (.array .int) true := ⟨_, _, _, _, zcX9, Nat.le_of_ble_eq_true rfl, zmt2 83 rfl rfl, rfl, rfl, rfl, rfl⟩
theorem flRX3_87 : zfl RX3 87 2 7 0 .int false := ⟨_, _, _, _, zcX3, Nat.le_of_ble_eq_true rfl, zmt1 181 rfl rfl, rfl, rfl, rfl, rfl⟩
theorem flRX3_128 : zfl RX3 128 2 6 0 .int false := ⟨_, _, _, _, zcX3, Nat.le_of_ble_eq_true rfl, zmt1 180 rfl rfl, rfl, rfl, rfl, rfl⟩
theorem flRX4_9 : zfl RX4 9 3 3 2 (.array .long) true := ⟨_, _, _, _, zcX4, Nat.le_of_ble_eq_true rfl, zmt2 0 rfl rfl, rfl, rfl, rfl, rfl⟩
theorem flRX4_15 : zfl RX4 15 3 7 2 (.array .int) true := ⟨_, _, _, _, zcX4, Nat.le_of_ble_eq_true rfl, zmt2 4 rfl rfl, rfl, rfl, rfl, rfl⟩
theorem flRX4_19 : zfl RX4 19 3 8 2 (.array .int) true := ⟨_, _, _, _, zcX4, Nat.le_of_ble_eq_true rfl, zmt2 5 rfl rfl, rfl, rfl, rfl, rfl⟩
theorem flRX4_22 : zfl RX4 22 3 9 2 (.array .int) true := ⟨_, _, _, _, zcX4, Nat.le_of_ble_eq_true rfl, zmt2 6 rfl rfl, rfl, rfl, rfl, rfl⟩
theorem flRX4_25 : zfl RX4 25 3 10 2 (.array .int) true := ⟨_, _, _, _, zcX4, Nat.le_of_ble_eq_true rfl, zmt2 7 rfl rfl, rfl, rfl, rfl, rfl⟩
theorem flRX4_28 : zfl RX4 28 3 0 2 (.array .int) true := ⟨_, _, _, _, zcX4, Nat.le_of_ble_eq_true rfl, zmt1 235 rfl rfl, rfl, rfl, rfl, rfl⟩
theorem flRX4_31 : zfl RX4 31 3 5 0 .int false := ⟨_, _, _, _, zcX4, Nat.le_of_ble_eq_true rfl, zmt2 2 rfl rfl, rfl, rfl, rfl, rfl⟩
theorem flRX4_35 : zfl RX4 35 3 4 0 .int false := ⟨_, _, _, _, zcX4, Nat.le_of_ble_eq_true rfl, zmt2 1 rfl rfl, rfl, rfl, rfl, rfl⟩
theorem flRX4_70 : zfl RX4 70 3 6 0 .int false := ⟨_, _, _, _, zcX4, Nat.le_of_ble_eq_true rfl, zmt2 3 rfl rfl, rfl, rfl, rfl, rfl⟩
theorem flRX4_76 : zfl RX4 76 3 2 0 .int false := ⟨_, _, _, _, zcX4, Nat.le_of_ble_eq_true rfl, zmt1 238 rfl rfl, rfl, rfl, rfl, rfl⟩
theorem flRX4_82 : zfl RX4 82 3 11 0 .int false := ⟨_, _, _, _, zcX4, Nat.le_of_ble_eq_true rfl, zmt2 8 rfl rfl, rfl, rfl, rfl, rfl⟩
theorem flRX4_85 : zfl RX4 85 3 12 0 .int false := ⟨_, _, _, _, zcX4, Nat.le_of_ble_eq_true rfl, zmt2 9 rfl rfl, rfl, rfl, rfl, rfl⟩
theorem flRX4_88 : zfl RX4 88 3 13 0 .int false := ⟨_, _, _, _, zcX4, Nat.le_of_ble_eq_true rfl, zmt2 10 rfl rfl, rfl, rfl, rfl, rfl⟩
theorem flRX4_109 : zfl RX4 109 3 1 0 .int false := ⟨_, _, _, _, zcX4, Nat.le_of_ble_eq_true rfl, zmt1 236 rfl rfl, rfl, rfl, rfl, rfl⟩
theorem flRX5_11 : zfl RX5 11 4 0 2 (.array (.object "FuseMinutes$Pit")) true := ⟨_, _, _, _, zcX5, Nat.le_of_ble_eq_true rfl, zmt1 89 rfl rfl, rfl, rfl, rfl, rfl⟩
theorem flRX5_18 : zfl RX5 18 4 2 0 .int false := ⟨_, _, _, _, zcX5, Nat.le_of_ble_eq_true rfl, zmt1 91 rfl rfl, rfl, rfl, rfl, rfl⟩
theorem flRX5_22 : zfl RX5 22 4 1 0 .int false := ⟨_, _, _, _, zcX5, Nat.le_of_ble_eq_true rfl, zmt1 90 rfl rfl, rfl, rfl, rfl, rfl⟩
theorem flRX6_12 : zfl RX6 12 5 0 2 (.object "FuseMinutes$Pit") true := ⟨_, _, _, _, zcX6, Nat.le_of_ble_eq_true rfl, zmt1 117 rfl rfl, rfl, rfl, rfl, rfl⟩
theorem flRX6_21 : zfl RX6 21 5 1 2 (.object "FuseMinutes$Steps") true := ⟨_, _, _, _, zcX6, Nat.le_of_ble_eq_true rfl, zmt1 120 rfl rfl, rfl, rfl, rfl, rfl⟩
theorem flRX6_25 : zfl RX6 25 5 2 2 (.array .int) true := ⟨_, _, _, _, zcX6, Nat.le_of_ble_eq_true rfl, zmt1 122 rfl rfl, rfl, rfl, rfl, rfl⟩
theorem flRX6_29 : zfl RX6 29 5 3 2 (.array .int) true := ⟨_, _, _, _, zcX6, Nat.le_of_ble_eq_true rfl, zmt1 125 rfl rfl, rfl, rfl, rfl, rfl⟩
theorem flRX6_32 : zfl RX6 32 5 5 0 .int false := ⟨_, _, _, _, zcX6, Nat.le_of_ble_eq_true rfl, zmt1 130 rfl rfl, rfl, rfl, rfl, rfl⟩
theorem flRX6_36 : zfl RX6 36 5 7 0 .int false := ⟨_, _, _, _, zcX6, Nat.le_of_ble_eq_true rfl, zmt1 134 rfl rfl, rfl, rfl, rfl, rfl⟩
theorem flRX6_44 : zfl RX6 44 5 8 2 (.object "FuseMinutes$Told") true := ⟨_, _, _, _, zcX6, Nat.le_of_ble_eq_true rfl, zmt1 136 rfl rfl, rfl, rfl, rfl, rfl⟩
theorem flRX6_48 : zfl RX6 48 5 9 2 (.object "FuseMinutes$Told") true := ⟨_, _, _, _, zcX6, Nat.le_of_ble_eq_true rfl, zmt1 138 rfl rfl, rfl, rfl, rfl, rfl⟩
theorem flRX6_51 : zfl RX6 51 5 10 2 (.object "FuseMinutes$Told") true := ⟨_, _, _, _, zcX6, Nat.le_of_ble_eq_true rfl, zmt1 140 rfl rfl, rfl, rfl, rfl, rfl⟩
theorem flRX6_67 : zfl RX6 67 5 4 0 .int false := ⟨_, _, _, _, zcX6, Nat.le_of_ble_eq_true rfl, zmt1 128 rfl rfl, rfl, rfl, rfl, rfl⟩
theorem flRX6_70 : zfl RX6 70 5 6 0 .int false := ⟨_, _, _, _, zcX6, Nat.le_of_ble_eq_true rfl, zmt1 132 rfl rfl, rfl, rfl, rfl, rfl⟩
theorem flRX7_9 : zfl RX7 9 6 1 2 (.array .int) true := ⟨_, _, _, _, zcX7, Nat.le_of_ble_eq_true rfl, zmt1 217 rfl rfl, rfl, rfl, rfl, rfl⟩
theorem flRX7_15 : zfl RX7 15 6 0 2 (.object "FuseMinutes$Store") true := ⟨_, _, _, _, zcX7, Nat.le_of_ble_eq_true rfl, zmt1 216 rfl rfl, rfl, rfl, rfl, rfl⟩
theorem flRX7_19 : zfl RX7 19 6 2 0 .int false := ⟨_, _, _, _, zcX7, Nat.le_of_ble_eq_true rfl, zmt1 218 rfl rfl, rfl, rfl, rfl, rfl⟩
theorem flRX7_23 : zfl RX7 23 6 3 0 .int false := ⟨_, _, _, _, zcX7, Nat.le_of_ble_eq_true rfl, zmt1 219 rfl rfl, rfl, rfl, rfl, rfl⟩
theorem flRX7_26 : zfl RX7 26 7 6 2 (.array .int) true := ⟨_, _, _, _, zcX9, Nat.le_of_ble_eq_true rfl, zmt2 79 rfl rfl, rfl, rfl, rfl, rfl⟩
theorem flRX7_31 : zfl RX7 31 7 7 2 (.array .int) true := ⟨_, _, _, _, zcX9, Nat.le_of_ble_eq_true rfl, zmt2 82 rfl rfl, rfl, rfl, rfl, rfl⟩
theorem flRX7_34 : zfl RX7 34 7 4 2 (.array .int) true := ⟨_, _, _, _, zcX9, Nat.le_of_ble_eq_true rfl, zmt2 75 rfl rfl, rfl, rfl, rfl, rfl⟩
theorem flRX7_66 : zfl RX7 66 5 0 2 (.object "FuseMinutes$Pit") true := ⟨_, _, _, _, zcX6, Nat.le_of_ble_eq_true rfl, zmt1 119 rfl rfl, rfl, rfl, rfl, rfl⟩
theorem flRX7_72 : zfl RX7 72 1 1 0 .int false := ⟨_, _, _, _, zcX2, Nat.le_of_ble_eq_true rfl, zmt1 47 rfl rfl, rfl, rfl, rfl, rfl⟩
theorem flRX7_77 : zfl RX7 77 1 4 2 (.array .int) true := ⟨_, _, _, _, zcX2, Nat.le_of_ble_eq_true rfl, zmt1 54 rfl rfl, rfl, rfl, rfl, rfl⟩
theorem flRX7_80 : zfl RX7 80 5 2 2 (.array .int) true := ⟨_, _, _, _, zcX6, Nat.le_of_ble_eq_true rfl, zmt1 124 rfl rfl, rfl, rfl, rfl, rfl⟩
theorem flRX7_83 : zfl RX7 83 5 3 2 (.array .int) true := ⟨_, _, _, _, zcX6, Nat.le_of_ble_eq_true rfl, zmt1 127 rfl rfl, rfl, rfl, rfl, rfl⟩
theorem flRX7_102 : zfl RX7 102 1 0 0 .int false := ⟨_, _, _, _, zcX2, Nat.le_of_ble_eq_true rfl, zmt1 45 rfl rfl, rfl, rfl, rfl, rfl⟩
theorem flRX8_9 : zfl RX8 9 8 1 0 .int false := ⟨_, _, _, _, zcX10, Nat.le_of_ble_eq_true rfl, zmt1 110 rfl rfl, rfl, rfl, rfl, rfl⟩
theorem flRX8_15 : zfl RX8 15 8 0 2 (.array .int) true := ⟨_, _, _, _, zcX10, Nat.le_of_ble_eq_true rfl, zmt1 107 rfl rfl, rfl, rfl, rfl, rfl⟩
theorem flRX9_9 : zfl RX9 9 7 0 2 (.array .int) true := ⟨_, _, _, _, zcX9, Nat.le_of_ble_eq_true rfl, zmt2 66 rfl rfl, rfl, rfl, rfl, rfl⟩
theorem flRX9_15 : zfl RX9 15 7 1 2 (.array .int) true := ⟨_, _, _, _, zcX9, Nat.le_of_ble_eq_true rfl, zmt2 68 rfl rfl, rfl, rfl, rfl, rfl⟩
theorem flRX9_18 : zfl RX9 18 7 2 2 (.array .int) true := ⟨_, _, _, _, zcX9, Nat.le_of_ble_eq_true rfl, zmt2 70 rfl rfl, rfl, rfl, rfl, rfl⟩
theorem flRX9_21 : zfl RX9 21 7 4 2 (.array .int) true := ⟨_, _, _, _, zcX9, Nat.le_of_ble_eq_true rfl, zmt2 74 rfl rfl, rfl, rfl, rfl, rfl⟩
theorem flRX9_24 : zfl RX9 24 7 6 2 (.array .int) true := ⟨_, _, _, _, zcX9, Nat.le_of_ble_eq_true rfl, zmt2 78 rfl rfl, rfl, rfl, rfl, rfl⟩
theorem flRX9_27 : zfl RX9 27 7 7 2 (.array .int) true := ⟨_, _, _, _, zcX9, Nat.le_of_ble_eq_true rfl, zmt2 81 rfl rfl, rfl, rfl, rfl, rfl⟩
theorem flRX9_30 : zfl RX9 30 7 3 0 .int false := ⟨_, _, _, _, zcX9, Nat.le_of_ble_eq_true rfl, zmt2 72 rfl rfl, rfl, rfl, rfl, rfl⟩
theorem flRX9_34 : zfl RX9 34 7 5 0 .int false := ⟨_, _, _, _, zcX9, Nat.le_of_ble_eq_true rfl, zmt2 76 rfl rfl, rfl, rfl, rfl, rfl⟩
theorem flRX10_7 : zfl RX10 7 8 0 2 (.array .int) true := ⟨_, _, _, _, zcX10, Nat.le_of_ble_eq_true rfl, zmt1 106 rfl rfl, rfl, rfl, rfl, rfl⟩
theorem flRX10_13 : zfl RX10 13 8 1 0 .int false := ⟨_, _, _, _, zcX10, Nat.le_of_ble_eq_true rfl, zmt1 109 rfl rfl, rfl, rfl, rfl, rfl⟩
theorem flRX12_7 : zfl RX12 7 10 0 2 (.array .int) true := ⟨_, _, _, _, zcX12, Nat.le_of_ble_eq_true rfl, zmt5 222 rfl rfl, rfl, rfl, rfl, rfl⟩
theorem flRX12_13 : zfl RX12 13 10 1 2 (.array .int) true := ⟨_, _, _, _, zcX12, Nat.le_of_ble_eq_true rfl, zmt5 223 rfl rfl, rfl, rfl, rfl, rfl⟩
theorem flRX12_16 : zfl RX12 16 10 2 2 (.array .int) true := ⟨_, _, _, _, zcX12, Nat.le_of_ble_eq_true rfl, zmt5 224 rfl rfl, rfl, rfl, rfl, rfl⟩
theorem flRX12_19 : zfl RX12 19 10 3 2 (.array .int) true := ⟨_, _, _, _, zcX12, Nat.le_of_ble_eq_true rfl, zmt5 225 rfl rfl, rfl, rfl, rfl, rfl⟩
theorem flRX12_22 : zfl RX12 22 10 5 0 .int false := ⟨_, _, _, _, zcX12, Nat.le_of_ble_eq_true rfl, zmt5 227 rfl rfl, rfl, rfl, rfl, rfl⟩
theorem flRX12_26 : zfl RX12 26 10 6 0 .int false := ⟨_, _, _, _, zcX12, Nat.le_of_ble_eq_true rfl, zmt5 228 rfl rfl, rfl, rfl, rfl, rfl⟩
theorem flRX12_29 : zfl RX12 29 10 15 2 (.array .int) true := ⟨_, _, _, _, zcX12, Nat.le_of_ble_eq_true rfl, zmt5 237 rfl rfl, rfl, rfl, rfl, rfl⟩
theorem flRX12_32 : zfl RX12 32 10 20 2 (.array .int) true := ⟨_, _, _, _, zcX12, Nat.le_of_ble_eq_true rfl, zmt6 2 rfl rfl, rfl, rfl, rfl, rfl⟩
theorem flRX12_35 : zfl RX12 35 10 21 2 (.array .long) true := ⟨_, _, _, _, zcX12, Nat.le_of_ble_eq_true rfl, zmt6 3 rfl rfl, rfl, rfl, rfl, rfl⟩
theorem flRX12_39 : zfl RX12 39 10 22 2 (.array .boolean) true := ⟨_, _, _, _, zcX12, Nat.le_of_ble_eq_true rfl, zmt6 4 rfl rfl, rfl, rfl, rfl, rfl⟩
theorem flRX12_43 : zfl RX12 43 10 23 0 .boolean false := ⟨_, _, _, _, zcX12, Nat.le_of_ble_eq_true rfl, zmt6 5 rfl rfl, rfl, rfl, rfl, rfl⟩
theorem flRX12_47 : zfl RX12 47 10 25 2 (.array .int) true := ⟨_, _, _, _, zcX12, Nat.le_of_ble_eq_true rfl, zmt6 7 rfl rfl, rfl, rfl, rfl, rfl⟩
theorem flRX12_50 : zfl RX12 50 10 26 2 (.array .int) true := ⟨_, _, _, _, zcX12, Nat.le_of_ble_eq_true rfl, zmt6 8 rfl rfl, rfl, rfl, rfl, rfl⟩
theorem flRX12_53 : zfl RX12 53 10 27 2 (.array .int) true := ⟨_, _, _, _, zcX12, Nat.le_of_ble_eq_true rfl, zmt6 9 rfl rfl, rfl, rfl, rfl, rfl⟩
theorem flRX12_56 : zfl RX12 56 10 28 2 (.array .int) true := ⟨_, _, _, _, zcX12, Nat.le_of_ble_eq_true rfl, zmt6 10 rfl rfl, rfl, rfl, rfl, rfl⟩
theorem flRX12_59 : zfl RX12 59 10 29 2 (.array .int) true := ⟨_, _, _, _, zcX12, Nat.le_of_ble_eq_true rfl, zmt6 11 rfl rfl, rfl, rfl, rfl, rfl⟩
theorem flRX12_63 : zfl RX12 63 10 30 2 (.array .boolean) true := ⟨_, _, _, _, zcX12, Nat.le_of_ble_eq_true rfl, zmt6 12 rfl rfl, rfl, rfl, rfl, rfl⟩
theorem flRX12_66 : zfl RX12 66 10 31 2 (.array .int) true := ⟨_, _, _, _, zcX12, Nat.le_of_ble_eq_true rfl, zmt6 13 rfl rfl, rfl, rfl, rfl, rfl⟩
theorem flRX12_69 : zfl RX12 69 10 33 2 (.array .int) true := ⟨_, _, _, _, zcX12, Nat.le_of_ble_eq_true rfl, zmt6 15 rfl rfl, rfl, rfl, rfl, rfl⟩
theorem flRX12_72 : zfl RX12 72 10 34 2 (.array .int) true := ⟨_, _, _, _, zcX12, Nat.le_of_ble_eq_true rfl, zmt6 16 rfl rfl, rfl, rfl, rfl, rfl⟩
theorem flRX12_75 : zfl RX12 75 10 35 2 (.array .int) true := ⟨_, _, _, _, zcX12, Nat.le_of_ble_eq_true rfl, zmt6 17 rfl rfl, rfl, rfl, rfl, rfl⟩
theorem flRX12_78 : zfl RX12 78 10 36 2 (.array .int) true := ⟨_, _, _, _, zcX12, Nat.le_of_ble_eq_true rfl, zmt6 18 rfl rfl, rfl, rfl, rfl, rfl⟩
theorem flRX12_119 : zfl RX12 119 10 4 0 .int false := ⟨_, _, _, _, zcX12, Nat.le_of_ble_eq_true rfl, zmt5 226 rfl rfl, rfl, rfl, rfl, rfl⟩
theorem flRX12_125 : zfl RX12 125 10 7 0 .int false := ⟨_, _, _, _, zcX12, Nat.le_of_ble_eq_true rfl, zmt5 229 rfl rfl, rfl, rfl, rfl, rfl⟩
theorem flRX12_131 : zfl RX12 131 10 8 0 .int false := ⟨_, _, _, _, zcX12, Nat.le_of_ble_eq_true rfl, zmt5 230 rfl rfl, rfl, rfl, rfl, rfl⟩
theorem flRX12_134 : zfl RX12 134 10 9 0 .int false := ⟨_, _, _, _, zcX12, Nat.le_of_ble_eq_true rfl, zmt5 231 rfl rfl, rfl, rfl, rfl, rfl⟩
theorem flRX12_140 : zfl RX12 140 10 10 0 .int false := ⟨_, _, _, _, zcX12, Nat.le_of_ble_eq_true rfl, zmt5 232 rfl rfl, rfl, rfl, rfl, rfl⟩
theorem flRX12_147 : zfl RX12 147 10 11 1 .long false := ⟨_, _, _, _, zcX12, Nat.le_of_ble_eq_true rfl, zmt5 233 rfl rfl, rfl, rfl, rfl, rfl⟩
theorem flRX12_172 : zfl RX12 172 10 12 0 .int false := ⟨_, _, _, _, zcX12, Nat.le_of_ble_eq_true rfl, zmt5 234 rfl rfl, rfl, rfl, rfl, rfl⟩
theorem flRX12_175 : zfl RX12 175 10 13 0 .int false := ⟨_, _, _, _, zcX12, Nat.le_of_ble_eq_true rfl, zmt5 235 rfl rfl, rfl, rfl, rfl, rfl⟩
theorem flRX12_178 : zfl RX12 178 10 16 0 .int false := ⟨_, _, _, _, zcX12, Nat.le_of_ble_eq_true rfl, zmt5 238 rfl rfl, rfl, rfl, rfl, rfl⟩
theorem flRX12_188 : zfl RX12 188 10 17 0 .int false := ⟨_, _, _, _, zcX12, Nat.le_of_ble_eq_true rfl, zmt5 239 rfl rfl, rfl, rfl, rfl, rfl⟩
theorem flRX12_204 : zfl RX12 204 10 14 0 .int false := ⟨_, _, _, _, zcX12, Nat.le_of_ble_eq_true rfl, zmt5 236 rfl rfl, rfl, rfl, rfl, rfl⟩
theorem flRX12_207 : zfl RX12 207 10 18 0 .boolean false := ⟨_, _, _, _, zcX12, Nat.le_of_ble_eq_true rfl, zmt6 0 rfl rfl, rfl, rfl, rfl, rfl⟩
theorem flRX12_262 : zfl RX12 262 10 19 0 .int false := ⟨_, _, _, _, zcX12, Nat.le_of_ble_eq_true rfl, zmt6 1 rfl rfl, rfl, rfl, rfl, rfl⟩
theorem flRX12_337 : zfl RX12 337 10 24 0 .int false := ⟨_, _, _, _, zcX12, Nat.le_of_ble_eq_true rfl, zmt6 6 rfl rfl, rfl, rfl, rfl, rfl⟩
theorem flRX12_449 : zfl RX12 449 10 32 0 .int false := ⟨_, _, _, _, zcX12, Nat.le_of_ble_eq_true rfl, zmt6 14 rfl rfl, rfl, rfl, rfl, rfl⟩
theorem mlRX11_72 : Cond.methodLink RX11 72 yX11_within ∈ zTb := zmt2 127 rfl rfl
theorem mlRX11_79 : Cond.methodLink RX11 79 yX2_lay ∈ zTb := zmt2 130 rfl rfl
theorem mlRX11_83 : Cond.methodLink RX11 83 yX4_forget ∈ zTb := zmt2 138 rfl rfl
theorem mlRX11_92 : Cond.methodLink RX11 92 yX3_append ∈ zTb := zmt2 150 rfl rfl
theorem mlRX11_97 : Cond.methodLink RX11 97 yX3_readInto ∈ zTb := zmt2 162 rfl rfl
theorem mlRX11_107 : Cond.methodLink RX11 107 yX11_hasText ∈ zTb := zmt3 158 rfl rfl
theorem mlRX11_114 : Cond.methodLink RX11 114 yX11_canLight ∈ zTb := zmt3 166 rfl rfl
theorem mlRX11_122 : Cond.methodLink RX11 122 yX5_push ∈ zTb := zmt3 227 rfl rfl
theorem mlRX11_128 : Cond.methodLink RX11 128 yX11_kindle ∈ zTb := zmt3 238 rfl rfl
theorem mlRX11_132 : Cond.methodLink RX11 132 yX2_burns ∈ zTb := zmt3 174 rfl rfl
theorem mlRX11_135 : Cond.methodLink RX11 135 yX2_putOut ∈ zTb := zmt4 22 rfl rfl
theorem mlRX11_139 : Cond.methodLink RX11 139 yX11_canRenew ∈ zTb := zmt4 30 rfl rfl
theorem mlRX11_142 : Cond.methodLink RX11 142 yX2_makeNew ∈ zTb := zmt4 34 rfl rfl
theorem mlRX11_145 : Cond.methodLink RX11 145 yX2_sparksToBurn ∈ zTb := zmt4 39 rfl rfl
theorem mlRX11_149 : Cond.methodLink RX11 149 yX2_pass ∈ zTb := zmt4 58 rfl rfl
theorem mlRX11_153 : Cond.methodLink RX11 153 yX2_hasTimeFor ∈ zTb := zmt4 72 rfl rfl
theorem mlRX11_168 : Cond.methodLink RX11 168 yX11_carriedOut ∈ zTb := zmt4 80 rfl rfl
theorem mlRX11_174 : Cond.methodLink RX11 174 yX2_draw ∈ zTb := zmt4 6 rfl rfl
theorem mlRX11_177 : Cond.methodLink RX11 177 yX11_shiftBy ∈ zTb := zmt4 99 rfl rfl
theorem mlRX11_183 : Cond.methodLink RX11 183 yX5_pop ∈ zTb := zmt4 111 rfl rfl
theorem mlRX11_190 : Cond.methodLink RX11 190 yX2_has ∈ zTb := zmt3 170 rfl rfl
theorem mlRX11_202 : Cond.methodLink RX11 202 yX11_lightsSays ∈ zTb := zmt3 179 rfl rfl
theorem mlRX11_205 : Cond.methodLink RX11 205 yX11_failsSays ∈ zTb := zmt4 2 rfl rfl
theorem mlRX11_211 : Cond.methodLink RX11 211 yX2_endsBurning ∈ zTb := zmt4 127 rfl rfl
theorem mlRX11_220 : Cond.methodLink RX11 220 yX11_partOfLine ∈ zTb := zmt4 132 rfl rfl
theorem mlRX11_223 : Cond.methodLink RX11 223 yJ6_bitCount_0f7a4 ∈ zTb := zmt4 139 rfl rfl
theorem mlRX11_228 : Cond.methodLink RX11 228 Lib.Math.max.name ∈ zTb := zmt3 226 rfl rfl
theorem mlRX11_233 : Cond.methodLink RX11 233 yX2_sparksToOut ∈ zTb := zmt4 144 rfl rfl
theorem mlRX11_236 : Cond.methodLink RX11 236 yX11_isSet ∈ zTb := zmt4 149 rfl rfl
theorem mlRX11_239 : Cond.methodLink RX11 239 yX4_countSpans ∈ zTb := zmt4 157 rfl rfl
theorem mlRX11_242 : Cond.methodLink RX11 242 yX4_spanNumber ∈ zTb := zmt4 193 rfl rfl
theorem mlRX11_245 : Cond.methodLink RX11 245 yX4_gives ∈ zTb := zmt4 209 rfl rfl
theorem mlRX11_248 : Cond.methodLink RX11 248 yX11_allCords ∈ zTb := zmt4 153 rfl rfl
theorem mlRX11_251 : Cond.methodLink RX11 251 yX6_priceOf ∈ zTb := zmt4 224 rfl rfl
theorem mlRX11_254 : Cond.methodLink RX11 254 yX4_findRow ∈ zTb := zmt4 232 rfl rfl
theorem mlRX11_260 : Cond.methodLink RX11 260 yX4_litAt ∈ zTb := zmt4 237 rfl rfl
theorem mlRX11_266 : Cond.methodLink RX11 266 yX11_isSpan ∈ zTb := zmt5 11 rfl rfl
theorem mlRX11_269 : Cond.methodLink RX11 269 yX4_nearestTo ∈ zTb := zmt5 12 rfl rfl
theorem mlRX11_279 : Cond.methodLink RX11 279 yX10_add ∈ zTb := zmt5 24 rfl rfl
theorem mlRX11_282 : Cond.methodLink RX11 282 yX11_findBundle ∈ zTb := zmt5 32 rfl rfl
theorem mlRX11_286 : Cond.methodLink RX11 286 yX0_cords ∈ zTb := zmt5 66 rfl rfl
theorem mlRX11_288 : Cond.methodLink RX11 288 yX0_share ∈ zTb := zmt5 75 rfl rfl
theorem mlRX11_291 : Cond.methodLink RX11 291 yX11_setsGiving ∈ zTb := zmt5 42 rfl rfl
theorem nlRX11_294 : (RX11, 294, yX1_outcome) ∈ zNm := by decide +kernel
theorem mlRX11_300 : Cond.methodLink RX11 300 yX1_bestFirst ∈ zTb := zmt5 95 rfl rfl
theorem mlRX11_307 : Cond.methodLink RX11 307 yX11_suspectSets ∈ zTb := zmt5 110 rfl rfl
theorem mlRX11_310 : Cond.methodLink RX11 310 yX8_inAll ∈ zTb := zmt5 117 rfl rfl
theorem mlRX11_315 : Cond.methodLink RX11 315 yX8_inNone ∈ zTb := zmt5 120 rfl rfl
theorem mlRX11_318 : Cond.methodLink RX11 318 yX8_lowest ∈ zTb := zmt5 123 rfl rfl
theorem mlRX11_321 : Cond.methodLink RX11 321 yX8_bestTrial ∈ zTb := zmt5 130 rfl rfl
theorem mlRX11_326 : Cond.methodLink RX11 326 yX11_power ∈ zTb := zmt5 143 rfl rfl
theorem mlRX11_332 : Cond.methodLink RX11 332 yX11_inLowestTerms ∈ zTb := zmt5 147 rfl rfl
theorem mlRX11_339 : Cond.methodLink RX11 339 yX11_agreesWithAllSaid ∈ zTb := zmt5 162 rfl rfl
theorem mlRX11_342 : Cond.methodLink RX11 342 yX6_copy ∈ zTb := zmt5 186 rfl rfl
theorem mlRX11_345 : Cond.methodLink RX11 345 yX2_touch ∈ zTb := zmt4 10 rfl rfl
theorem mlRX11_349 : Cond.methodLink RX11 349 yX9_rules ∈ zTb := zmt3 183 rfl rfl
theorem mlRX11_352 : Cond.methodLink RX11 352 yX7_valueOf ∈ zTb := zmt3 184 rfl rfl
theorem mlRX11_356 : Cond.methodLink RX11 356 Lib.Math.min.name ∈ zTb := zmt3 225 rfl rfl
theorem mlRX11_359 : Cond.methodLink RX11 359 yX11_cord ∈ zTb := zmt4 84 rfl rfl
theorem mlRX11_362 : Cond.methodLink RX11 362 yX11_hands ∈ zTb := zmt4 85 rfl rfl
theorem mlRX11_364 : Cond.methodLink RX11 364 yX11_light ∈ zTb := zmt4 86 rfl rfl
theorem mlRX11_368 : Cond.methodLink RX11 368 yX11_snuff ∈ zTb := zmt4 87 rfl rfl
theorem mlRX11_372 : Cond.methodLink RX11 372 yX11_renew ∈ zTb := zmt4 88 rfl rfl
theorem mlRX11_375 : Cond.methodLink RX11 375 yX11_burn ∈ zTb := zmt4 89 rfl rfl
theorem mlRX11_378 : Cond.methodLink RX11 378 yX11_minutesPassed ∈ zTb := zmt4 90 rfl rfl
theorem mlRX11_381 : Cond.methodLink RX11 381 yX11_minute ∈ zTb := zmt4 94 rfl rfl
theorem mlRX11_384 : Cond.methodLink RX11 384 yX11_shiftCord ∈ zTb := zmt4 103 rfl rfl
theorem mlRX11_388 : Cond.methodLink RX11 388 yX0_begin ∈ zTb := zmt5 36 rfl rfl
theorem mlRX11_397 : Cond.methodLink RX11 397 yX0_find ∈ zTb := zmt5 46 rfl rfl
theorem mlRX11_401 : Cond.methodLink RX11 401 yX8_fits ∈ zTb := zmt5 114 rfl rfl
theorem mlRX0_18 : Cond.methodLink RX0 18 Lib.Math.min.name ∈ zTb := zmt5 40 rfl rfl
theorem mlRX0_34 : Cond.methodLink RX0 34 yX0_shareOut ∈ zTb := zmt5 50 rfl rfl
theorem mlRX0_38 : Cond.methodLink RX0 38 yX0_givesAll ∈ zTb := zmt5 54 rfl rfl
theorem mlRX0_42 : Cond.methodLink RX0 42 yX0_rank ∈ zTb := zmt5 58 rfl rfl
theorem mlRX0_46 : Cond.methodLink RX0 46 Lib.MathLoose.min_long.x ∈ zTb := zmt5 65 rfl rfl
theorem mlRX0_49 : Cond.methodLink RX0 49 yX6_priceOf ∈ zTb := zmt5 62 rfl rfl
theorem mlRX0_55 : Cond.methodLink RX0 55 yJ6_bitCount_0f7a4 ∈ zTb := zmt5 63 rfl rfl
theorem mlRX1_9 : Cond.methodLink RX1 9 yX1_behindTaking ∈ zTb := zmt5 86 rfl rfl
theorem mlRX1_15 : Cond.methodLink RX1 15 Lib.Math.max.name ∈ zTb := zmt5 90 rfl rfl
theorem mlRX1_21 : Cond.methodLink RX1 21 yX1_outcome ∈ zTb := zmt5 89 rfl rfl
theorem mlRX2_37 : Cond.methodLink RX2 37 arraycopyName ∈ zTb := zmt3 235 rfl rfl
theorem mlRX2_43 : Cond.methodLink RX2 43 yX2_makeNew ∈ zTb := zmt2 134 rfl rfl
theorem mlRX2_47 : Cond.methodLink RX2 47 yX2_has ∈ zTb := zmt3 178 rfl rfl
theorem mlRX2_51 : Cond.methodLink RX2 51 yX2_writeDown ∈ zTb := zmt4 14 rfl rfl
theorem mlRX2_55 : Cond.methodLink RX2 55 yJ6_bitCount_0f7a4 ∈ zTb := zmt4 51 rfl rfl
theorem mlRX2_61 : Cond.methodLink RX2 61 yX2_sparksToOut ∈ zTb := zmt4 47 rfl rfl
theorem mlRX2_64 : Cond.methodLink RX2 64 yX2_sparksToNextOut ∈ zTb := zmt4 43 rfl rfl
theorem mlRX2_69 : Cond.methodLink RX2 69 Lib.Math.min.name ∈ zTb := zmt4 62 rfl rfl
theorem mlRX2_75 : Cond.methodLink RX2 75 yX2_passWithin ∈ zTb := zmt4 63 rfl rfl
theorem mlRX2_78 : Cond.methodLink RX2 78 Lib.Math.max.name ∈ zTb := zmt4 67 rfl rfl
theorem mlRX3_29 : Cond.methodLink RX3 29 yX9_clear ∈ zTb := zmt2 166 rfl rfl
theorem mlRX3_40 : Cond.methodLink RX3 40 yX3_next ∈ zTb := zmt2 170 rfl rfl
theorem mlRX3_46 : Cond.methodLink RX3 46 yX3_readClause ∈ zTb := zmt3 70 rfl rfl
theorem mlRX3_50 : Cond.methodLink RX3 50 yX3_fail ∈ zTb := zmt3 74 rfl rfl
theorem mlRX3_53 : Cond.methodLink RX3 53 yX9_rules ∈ zTb := zmt3 78 rfl rfl
theorem mlRX3_57 : Cond.methodLink RX3 57 yX3_readLaw ∈ zTb := zmt3 82 rfl rfl
theorem mlRX3_60 : Cond.methodLink RX3 60 yX3_readAct ∈ zTb := zmt3 140 rfl rfl
theorem mlRX3_63 : Cond.methodLink RX3 63 yX3_expect ∈ zTb := zmt3 113 rfl rfl
theorem mlRX3_73 : Cond.methodLink RX3 73 yX3_readSum ∈ zTb := zmt3 86 rfl rfl
theorem mlRX3_79 : Cond.methodLink RX3 79 yX9_addClause ∈ zTb := zmt3 136 rfl rfl
theorem mlRX3_83 : Cond.methodLink RX3 83 yX3_readNumber ∈ zTb := zmt3 144 rfl rfl
theorem nlRX3_90 : (RX3, 90, yX11_within) ∈ zNm := by decide +kernel
theorem mlRX3_94 : Cond.methodLink RX3 94 yX3_readProduct ∈ zTb := zmt3 90 rfl rfl
theorem mlRX3_97 : Cond.methodLink RX3 97 yX9_addCode ∈ zTb := zmt3 98 rfl rfl
theorem mlRX3_100 : Cond.methodLink RX3 100 yX3_readOne ∈ zTb := zmt3 94 rfl rfl
theorem mlRX3_103 : Cond.methodLink RX3 103 yX3_isName ∈ zTb := zmt3 102 rfl rfl
theorem mlRX3_106 : Cond.methodLink RX3 106 yX3_readOpening ∈ zTb := zmt3 105 rfl rfl
theorem mlRX3_109 : Cond.methodLink RX3 109 yX3_opens ∈ zTb := zmt3 109 rfl rfl
theorem mlRX3_113 : Cond.methodLink RX3 113 yX3_readIf ∈ zTb := zmt3 117 rfl rfl
theorem mlRX3_116 : Cond.methodLink RX3 116 yX3_readEither ∈ zTb := zmt3 121 rfl rfl
theorem mlRX3_119 : Cond.methodLink RX3 119 yX3_readBoth ∈ zTb := zmt3 125 rfl rfl
theorem mlRX3_122 : Cond.methodLink RX3 122 yX3_readAsk ∈ zTb := zmt3 129 rfl rfl
theorem mlRX3_125 : Cond.methodLink RX3 125 yX3_compares ∈ zTb := zmt3 133 rfl rfl
theorem mlRX3_131 : Cond.methodLink RX3 131 yX3_byteAt ∈ zTb := zmt2 174 rfl rfl
theorem mlRX3_135 : Cond.methodLink RX3 135 yX3_isLetter ∈ zTb := zmt2 178 rfl rfl
theorem mlRX3_138 : Cond.methodLink RX3 138 yX3_nextWord ∈ zTb := zmt2 181 rfl rfl
theorem mlRX3_142 : Cond.methodLink RX3 142 yX3_isDigit ∈ zTb := zmt2 238 rfl rfl
theorem mlRX3_145 : Cond.methodLink RX3 145 yX3_nextNumber ∈ zTb := zmt3 1 rfl rfl
theorem mlRX3_148 : Cond.methodLink RX3 148 yX3_nextSign ∈ zTb := zmt3 8 rfl rfl
theorem mlRX3_153 : Cond.methodLink RX3 153 yJ0_length_8abf5 ∈ zTb := zmt2 186 rfl rfl
theorem mlRX3_157 : Cond.methodLink RX3 157 yJ0_charAt_5068e ∈ zTb := zmt2 196 rfl rfl
theorem mlRX3_161 : Cond.methodLink RX3 161 yX3_spells ∈ zTb := zmt2 234 rfl rfl
theorem mlRX3_164 : Cond.methodLink RX3 164 Lib.Math.min.name ∈ zTb := zmt3 5 rfl rfl
theorem mlRX3_171 : Cond.methodLink RX3 171 yJ0_indexOf_0f7a4 ∈ zTb := zmt3 13 rfl rfl
theorem nlRX4_38 : (RX4, 38, yX11_isSpan) ∈ zNm := by decide +kernel
theorem mlRX4_42 : Cond.methodLink RX4 42 yX4_learn ∈ zTb := zmt4 161 rfl rfl
theorem mlRX4_46 : Cond.methodLink RX4 46 yX4_marked ∈ zTb := zmt4 201 rfl rfl
theorem mlRX4_50 : Cond.methodLink RX4 50 yJ13_bitCount_95d88 ∈ zTb := zmt4 187 rfl rfl
theorem mlRX4_56 : Cond.methodLink RX4 56 yX4_spanInWord ∈ zTb := zmt4 197 rfl rfl
theorem mlRX4_60 : Cond.methodLink RX4 60 yX4_nextMarked ∈ zTb := zmt5 16 rfl rfl
theorem mlRX4_63 : Cond.methodLink RX4 63 yX4_begin ∈ zTb := zmt4 165 rfl rfl
theorem mlRX4_67 : Cond.methodLink RX4 67 yX4_walk ∈ zTb := zmt4 169 rfl rfl
theorem mlRX4_73 : Cond.methodLink RX4 73 yX4_gives ∈ zTb := zmt4 236 rfl rfl
theorem mlRX4_91 : Cond.methodLink RX4 91 yX4_burnOn ∈ zTb := zmt4 173 rfl rfl
theorem mlRX4_94 : Cond.methodLink RX4 94 yX4_arrive ∈ zTb := zmt4 179 rfl rfl
theorem mlRX4_97 : Cond.methodLink RX4 97 yX4_chooseNext ∈ zTb := zmt4 183 rfl rfl
theorem mlRX4_100 : Cond.methodLink RX4 100 Lib.Math.min.name ∈ zTb := zmt4 177 rfl rfl
theorem mlRX4_106 : Cond.methodLink RX4 106 Lib.Math.max.name ∈ zTb := zmt4 178 rfl rfl
theorem mlRX5_25 : Cond.methodLink RX5 25 yX2_copy ∈ zTb := zmt3 231 rfl rfl
theorem mlRX6_54 : Cond.methodLink RX6 54 yX2_copy ∈ zTb := zmt5 190 rfl rfl
theorem mlRX6_58 : Cond.methodLink RX6 58 yX5_copy ∈ zTb := zmt5 191 rfl rfl
theorem mlRX6_61 : Cond.methodLink RX6 61 arraycopyName ∈ zTb := zmt5 195 rfl rfl
theorem mlRX6_73 : Cond.methodLink RX6 73 yX10_copy ∈ zTb := zmt5 196 rfl rfl
theorem mlRX7_37 : Cond.methodLink RX7 37 yX7_takes ∈ zTb := zmt3 188 rfl rfl
theorem mlRX7_41 : Cond.methodLink RX7 41 yX7_leaf ∈ zTb := zmt3 191 rfl rfl
theorem mlRX7_45 : Cond.methodLink RX7 45 yX7_result ∈ zTb := zmt3 199 rfl rfl
theorem mlRX7_49 : Cond.methodLink RX7 49 yX7_limited ∈ zTb := zmt3 214 rfl rfl
theorem mlRX7_57 : Cond.methodLink RX7 57 Lib.MathLoose.min_long.x ∈ zTb := zmt3 219 rfl rfl
theorem mlRX7_63 : Cond.methodLink RX7 63 Lib.MathLoose.max_long.x ∈ zTb := zmt3 222 rfl rfl
theorem mlRX7_86 : Cond.methodLink RX7 86 yX2_endsBurning ∈ zTb := zmt3 195 rfl rfl
theorem mlRX7_90 : Cond.methodLink RX7 90 Lib.MathLoose.abs_long.x ∈ zTb := zmt3 203 rfl rfl
theorem mlRX7_94 : Cond.methodLink RX7 94 yX7_isOut ∈ zTb := zmt3 206 rfl rfl
theorem mlRX7_98 : Cond.methodLink RX7 98 yX7_holds ∈ zTb := zmt3 211 rfl rfl
theorem mlRX8_19 : Cond.methodLink RX8 19 yX8_countFailing ∈ zTb := zmt5 133 rfl rfl
theorem mlRX8_25 : Cond.methodLink RX8 25 yJ6_bitCount_0f7a4 ∈ zTb := zmt5 136 rfl rfl
theorem mlRX8_31 : Cond.methodLink RX8 31 Lib.Math.max.name ∈ zTb := zmt5 137 rfl rfl
theorem mlRX12_81 : Cond.methodLink RX12 81 yX12_copy ∈ zTb := zmt5 215 rfl rfl
theorem mlRX12_85 : Cond.methodLink RX12 85 yX12_forget ∈ zTb := zmt5 218 rfl rfl
theorem mlRX12_88 : Cond.methodLink RX12 88 yX12_isIn ∈ zTb := zmt6 99 rfl rfl
theorem mlRX12_92 : Cond.methodLink RX12 92 yX12_has ∈ zTb := zmt6 192 rfl rfl
theorem mlRX12_96 : Cond.methodLink RX12 96 yX12_get ∈ zTb := zmt7 50 rfl rfl
theorem mlRX12_100 : Cond.methodLink RX12 100 yX12_bits ∈ zTb := zmt7 73 rfl rfl
theorem mlRX12_104 : Cond.methodLink RX12 104 yX12_begin ∈ zTb := zmt6 102 rfl rfl
theorem mlRX12_108 : Cond.methodLink RX12 108 yX12_full ∈ zTb := zmt6 106 rfl rfl
theorem mlRX12_111 : Cond.methodLink RX12 111 yX12_put ∈ zTb := zmt6 110 rfl rfl
theorem mlRX12_115 : Cond.methodLink RX12 115 yX12_isCord ∈ zTb := zmt6 122 rfl rfl
theorem mlRX12_122 : Cond.methodLink RX12 122 yX12_four ∈ zTb := zmt6 130 rfl rfl
theorem mlRX12_128 : Cond.methodLink RX12 128 yX12_byteAt ∈ zTb := zmt6 150 rfl rfl
theorem mlRX12_137 : Cond.methodLink RX12 137 yX12_isFigure ∈ zTb := zmt6 154 rfl rfl
theorem mlRX12_144 : Cond.methodLink RX12 144 yX12_isLetterByte ∈ zTb := zmt6 158 rfl rfl
theorem mlRX12_153 : Cond.methodLink RX12 153 yX12_isSign ∈ zTb := zmt6 162 rfl rfl
theorem mlRX12_156 : Cond.methodLink RX12 156 yX12_w2 ∈ zTb := zmt6 185 rfl rfl
theorem mlRX12_160 : Cond.methodLink RX12 160 yX12_w3 ∈ zTb := zmt6 182 rfl rfl
theorem mlRX12_164 : Cond.methodLink RX12 164 yX12_w4 ∈ zTb := zmt6 179 rfl rfl
theorem mlRX12_168 : Cond.methodLink RX12 168 yX12_w5 ∈ zTb := zmt6 176 rfl rfl
theorem mlRX12_181 : Cond.methodLink RX12 181 yX12_rank ∈ zTb := zmt6 235 rfl rfl
theorem mlRX12_184 : Cond.methodLink RX12 184 yX12_emit ∈ zTb := zmt7 6 rfl rfl
theorem mlRX12_191 : Cond.methodLink RX12 191 yX12_openAt ∈ zTb := zmt6 227 rfl rfl
theorem mlRX12_195 : Cond.methodLink RX12 195 yX12_openNow ∈ zTb := zmt6 223 rfl rfl
theorem mlRX12_198 : Cond.methodLink RX12 198 yX12_nextToken ∈ zTb := zmt6 146 rfl rfl
theorem mlRX12_201 : Cond.methodLink RX12 201 yX12_nameOf ∈ zTb := zmt7 18 rfl rfl
theorem mlRX12_210 : Cond.methodLink RX12 210 yX12_settle ∈ zTb := zmt7 2 rfl rfl
theorem mlRX12_213 : Cond.methodLink RX12 213 yX12_opened ∈ zTb := zmt7 22 rfl rfl
theorem mlRX12_216 : Cond.methodLink RX12 216 yX12_isWord ∈ zTb := zmt6 188 rfl rfl
theorem mlRX12_220 : Cond.methodLink RX12 220 yX12_isAskAhead ∈ zTb := zmt7 26 rfl rfl
theorem mlRX12_224 : Cond.methodLink RX12 224 yX12_isCompared ∈ zTb := zmt6 231 rfl rfl
theorem mlRX12_227 : Cond.methodLink RX12 227 yX12_compareOf ∈ zTb := zmt6 238 rfl rfl
theorem mlRX12_230 : Cond.methodLink RX12 230 yX12_betweenOf ∈ zTb := zmt6 219 rfl rfl
theorem mlRX12_233 : Cond.methodLink RX12 233 yX12_partOf ∈ zTb := zmt7 10 rfl rfl
theorem mlRX12_236 : Cond.methodLink RX12 236 yX12_behindOne ∈ zTb := zmt6 215 rfl rfl
theorem mlRX12_239 : Cond.methodLink RX12 239 yX12_beginOne ∈ zTb := zmt7 14 rfl rfl
theorem mlRX12_242 : Cond.methodLink RX12 242 yX12_summed ∈ zTb := zmt6 211 rfl rfl
theorem mlRX12_245 : Cond.methodLink RX12 245 yX12_figure ∈ zTb := zmt6 203 rfl rfl
theorem mlRX12_249 : Cond.methodLink RX12 249 yX12_cordClause ∈ zTb := zmt6 199 rfl rfl
theorem mlRX12_252 : Cond.methodLink RX12 252 yX12_lawClause ∈ zTb := zmt6 207 rfl rfl
theorem mlRX12_255 : Cond.methodLink RX12 255 yX12_w6 ∈ zTb := zmt6 173 rfl rfl
theorem mlRX12_259 : Cond.methodLink RX12 259 yX12_sortOf ∈ zTb := zmt6 169 rfl rfl
theorem mlRX12_265 : Cond.methodLink RX12 265 yX12_body ∈ zTb := zmt6 195 rfl rfl
theorem mlRX12_268 : Cond.methodLink RX12 268 yX12_clause ∈ zTb := zmt6 165 rfl rfl
theorem mlRX12_271 : Cond.methodLink RX12 271 yX12_readText ∈ zTb := zmt6 142 rfl rfl
theorem mlRX12_278 : Cond.methodLink RX12 278 yX12_clip ∈ zTb := zmt7 99 rfl rfl
theorem mlRX12_282 : Cond.methodLink RX12 282 yX12_isOut ∈ zTb := zmt7 57 rfl rfl
theorem mlRX12_287 : Cond.methodLink RX12 287 yX12_twosOf ∈ zTb := zmt7 88 rfl rfl
theorem mlRX12_290 : Cond.methodLink RX12 290 yX12_outOf ∈ zTb := zmt7 92 rfl rfl
theorem mlRX12_293 : Cond.methodLink RX12 293 yX12_ofOne ∈ zTb := zmt7 84 rfl rfl
theorem mlRX12_297 : Cond.methodLink RX12 297 yX12_two ∈ zTb := zmt7 96 rfl rfl
theorem mlRX12_301 : Cond.methodLink RX12 301 yX12_isAsked ∈ zTb := zmt7 104 rfl rfl
theorem mlRX12_305 : Cond.methodLink RX12 305 yX12_joined ∈ zTb := zmt7 107 rfl rfl
theorem mlRX12_309 : Cond.methodLink RX12 309 yX12_summedUp ∈ zTb := zmt7 80 rfl rfl
theorem mlRX12_312 : Cond.methodLink RX12 312 yX12_cut ∈ zTb := zmt7 110 rfl rfl
theorem mlRX12_316 : Cond.methodLink RX12 316 yX12_endsNow ∈ zTb := zmt7 69 rfl rfl
theorem mlRX12_319 : Cond.methodLink RX12 319 yX12_name ∈ zTb := zmt7 65 rfl rfl
theorem mlRX12_322 : Cond.methodLink RX12 322 yX12_says ∈ zTb := zmt7 76 rfl rfl
theorem mlRX12_333 : Cond.methodLink RX12 333 yX12_outIn ∈ zTb := zmt7 169 rfl rfl
theorem mlRX12_340 : Cond.methodLink RX12 340 yX12_write ∈ zTb := zmt7 132 rfl rfl
theorem mlRX12_343 : Cond.methodLink RX12 343 yX12_nextOut ∈ zTb := zmt7 164 rfl rfl
theorem mlRX12_346 : Cond.methodLink RX12 346 yX12_passOne ∈ zTb := zmt7 178 rfl rfl
theorem mlRX12_349 : Cond.methodLink RX12 349 yX12_sideBit ∈ zTb := zmt7 54 rfl rfl
theorem mlRX12_353 : Cond.methodLink RX12 353 yX12_lightsOf ∈ zTb := zmt7 61 rfl rfl
theorem mlRX12_357 : Cond.methodLink RX12 357 yX12_failsOf ∈ zTb := zmt7 121 rfl rfl
theorem mlRX12_360 : Cond.methodLink RX12 360 yX12_anew ∈ zTb := zmt7 125 rfl rfl
theorem mlRX12_363 : Cond.methodLink RX12 363 yX12_canLight ∈ zTb := zmt7 46 rfl rfl
theorem mlRX12_367 : Cond.methodLink RX12 367 yX12_keep ∈ zTb := zmt7 113 rfl rfl
theorem mlRX12_370 : Cond.methodLink RX12 370 yX12_lightNow ∈ zTb := zmt7 117 rfl rfl
theorem mlRX12_373 : Cond.methodLink RX12 373 yX12_canSnuff ∈ zTb := zmt7 140 rfl rfl
theorem mlRX12_376 : Cond.methodLink RX12 376 yX12_snuffNow ∈ zTb := zmt7 144 rfl rfl
theorem mlRX12_380 : Cond.methodLink RX12 380 yX12_canRenew ∈ zTb := zmt7 152 rfl rfl
theorem mlRX12_383 : Cond.methodLink RX12 383 yX12_canBurn ∈ zTb := zmt7 160 rfl rfl
theorem mlRX12_386 : Cond.methodLink RX12 386 yX12_pass ∈ zTb := zmt7 174 rfl rfl
theorem mlRX12_389 : Cond.methodLink RX12 389 yX12_canPass ∈ zTb := zmt7 190 rfl rfl
theorem mlRX12_392 : Cond.methodLink RX12 392 yX12_arePassed ∈ zTb := zmt7 186 rfl rfl
theorem mlRX12_395 : Cond.methodLink RX12 395 yX12_cord ∈ zTb := zmt7 202 rfl rfl
theorem mlRX12_398 : Cond.methodLink RX12 398 yX12_hands ∈ zTb := zmt7 203 rfl rfl
theorem mlRX12_401 : Cond.methodLink RX12 401 yX12_light ∈ zTb := zmt7 204 rfl rfl
theorem mlRX12_404 : Cond.methodLink RX12 404 yX12_snuff ∈ zTb := zmt7 205 rfl rfl
theorem mlRX12_407 : Cond.methodLink RX12 407 yX12_renew ∈ zTb := zmt7 206 rfl rfl
theorem mlRX12_410 : Cond.methodLink RX12 410 yX12_burn ∈ zTb := zmt7 207 rfl rfl
theorem mlRX12_413 : Cond.methodLink RX12 413 yX12_isPlayed ∈ zTb := zmt7 198 rfl rfl
theorem mlRX12_416 : Cond.methodLink RX12 416 yX12_happens ∈ zTb := zmt7 212 rfl rfl
theorem mlRX12_419 : Cond.methodLink RX12 419 yX12_entry ∈ zTb := zmt7 232 rfl rfl
theorem mlRX12_422 : Cond.methodLink RX12 422 yX12_digitOf ∈ zTb := zmt8 40 rfl rfl
theorem mlRX12_425 : Cond.methodLink RX12 425 yX12_layFirst ∈ zTb := zmt8 32 rfl rfl
theorem mlRX12_428 : Cond.methodLink RX12 428 yX12_isLighting ∈ zTb := zmt8 36 rfl rfl
theorem mlRX12_431 : Cond.methodLink RX12 431 yX12_isNext ∈ zTb := zmt8 43 rfl rfl
theorem mlRX12_434 : Cond.methodLink RX12 434 yX12_mark ∈ zTb := zmt8 47 rfl rfl
theorem mlRX12_437 : Cond.methodLink RX12 437 yX12_layGives ∈ zTb := zmt8 28 rfl rfl
theorem mlRX12_440 : Cond.methodLink RX12 440 yX12_areCords ∈ zTb := zmt8 24 rfl rfl
theorem mlRX12_443 : Cond.methodLink RX12 443 yX12_isGiven ∈ zTb := zmt8 51 rfl rfl
theorem mlRX12_446 : Cond.methodLink RX12 446 yX12_isSpan ∈ zTb := zmt8 59 rfl rfl
theorem mlRX12_452 : Cond.methodLink RX12 452 yX12_isSpanAt ∈ zTb := zmt8 79 rfl rfl
theorem mlRX12_455 : Cond.methodLink RX12 455 yX12_can ∈ zTb := zmt8 74 rfl rfl
theorem mlRX12_458 : Cond.methodLink RX12 458 yX12_isRow ∈ zTb := zmt8 75 rfl rfl
theorem mlRX12_461 : Cond.methodLink RX12 461 yX12_layRow ∈ zTb := zmt8 70 rfl rfl
theorem mlRX12_464 : Cond.methodLink RX12 464 yX12_priceOf ∈ zTb := zmt8 99 rfl rfl
theorem mlRX12_467 : Cond.methodLink RX12 467 yX12_isCheaper ∈ zTb := zmt8 95 rfl rfl
theorem mlRX12_470 : Cond.methodLink RX12 470 yX12_areParts ∈ zTb := zmt8 115 rfl rfl
theorem mlRX12_473 : Cond.methodLink RX12 473 yX12_isLower ∈ zTb := zmt8 119 rfl rfl
theorem mlRX12_476 : Cond.methodLink RX12 476 yX12_layBundle ∈ zTb := zmt8 111 rfl rfl
theorem mlRX12_479 : Cond.methodLink RX12 479 yX12_heldBy ∈ zTb := zmt8 138 rfl rfl
theorem mlRX12_482 : Cond.methodLink RX12 482 yX12_turned ∈ zTb := zmt8 149 rfl rfl
theorem mlRX12_485 : Cond.methodLink RX12 485 yX12_takenBy ∈ zTb := zmt8 145 rfl rfl
theorem mlRX12_489 : Cond.methodLink RX12 489 yX12_isCode ∈ zTb := zmt8 135 rfl rfl
theorem mlRX12_492 : Cond.methodLink RX12 492 yX12_bestOf ∈ zTb := zmt8 141 rfl rfl
theorem mlRX12_496 : Cond.methodLink RX12 496 yX12_layGames ∈ zTb := zmt8 131 rfl rfl
theorem mlRX12_499 : Cond.methodLink RX12 499 yX12_isSuspect ∈ zTb := zmt8 164 rfl rfl
theorem mlRX12_502 : Cond.methodLink RX12 502 yX12_suspects ∈ zTb := zmt8 172 rfl rfl
theorem mlRX12_505 : Cond.methodLink RX12 505 yX12_divisor ∈ zTb := zmt8 185 rfl rfl
theorem mlRX12_513 : Cond.methodLink RX12 513 yX12_power ∈ zTb := zmt8 179 rfl rfl
theorem mlRX12_517 : Cond.methodLink RX12 517 yX12_share ∈ zTb := zmt8 182 rfl rfl
theorem mlRJ0_335 : Cond.methodLink RJ0 335 yJ0_coder_7d493 ∈ zTb := zmt2 190 rfl rfl
theorem mlRJ0_492 : Cond.methodLink RJ0 492 yJ0_isLatin1_aae02 ∈ zTb := zmt2 200 rfl rfl
theorem mlRJ0_495 : Cond.methodLink RJ0 495 yJ1_charAt_3b067 ∈ zTb := zmt2 204 rfl rfl
theorem mlRJ0_505 : Cond.methodLink RJ0 505 yJ0_length_8abf5 ∈ zTb := zmt3 21 rfl rfl
theorem mlRJ0_633 : Cond.methodLink RJ0 633 yJ0_indexOf_7cf53 ∈ zTb := zmt3 17 rfl rfl
theorem mlRJ0_637 : Cond.methodLink RJ0 637 yJ1_indexOf_4cfef ∈ zTb := zmt3 22 rfl rfl
theorem mlRJ0_1059 : Cond.methodLink RJ0 1059 yJ3_checkIndex_8e157 ∈ zTb := zmt2 212 rfl rfl
theorem mlRJ1_9 : Cond.methodLink RJ1 9 yJ0_checkIndex_df160 ∈ zTb := zmt2 207 rfl rfl
theorem mlRJ1_38 : Cond.methodLink RJ1 38 Lib.Math.min.name ∈ zTb := zmt3 31 rfl rfl
theorem mlRJ1_88 : Cond.methodLink RJ1 88 yJ1_canEncode_9a6ad ∈ zTb := zmt3 25 rfl rfl
theorem mlRJ1_92 : Cond.methodLink RJ1 92 Lib.Math.max.name ∈ zTb := zmt3 28 rfl rfl
theorem mlRJ1_95 : Cond.methodLink RJ1 95 yJ1_indexOfChar_4cfef ∈ zTb := zmt3 32 rfl rfl
theorem csRX11_324 : Cond.constantLong RX11 324 (-1 : Int64) ∈ zTb := zmt5 142 rfl rfl
theorem csRX11_330 : Cond.constantLong RX11 330 (10 : Int64) ∈ zTb := zmt5 146 rfl rfl
theorem csRX0_28 : Cond.constantLong RX0 28 (-1 : Int64) ∈ zTb := zmt5 41 rfl rfl
theorem csRX0_60 : Cond.constantLong RX0 60 (16 : Int64) ∈ zTb := zmt5 64 rfl rfl
theorem csRX0_62 : Cond.constantLong RX0 62 (15 : Int64) ∈ zTb := zmt5 70 rfl rfl
theorem csRX2_68 : Cond.constant RX2 68 (639936 : Int32) ∈ zTb := zmt4 57 rfl rfl
theorem csRX7_53 : Cond.constantLong RX7 53 (-1000000 : Int64) ∈ zTb := zmt3 217 rfl rfl
theorem csRX7_55 : Cond.constantLong RX7 55 (1000000 : Int64) ∈ zTb := zmt3 218 rfl rfl
theorem csRX7_105 : Cond.constantLong RX7 105 (4 : Int64) ∈ zTb := zmt3 210 rfl rfl
theorem csRX12_143 : Cond.constant RX12 143 (99999 : Int32) ∈ zTb := zmt6 157 rfl rfl
theorem csRX12_151 : Cond.constantLong RX12 151 (1152921504606846976 : Int64) ∈ zTb := zmt6 161 rfl rfl
theorem csRX12_274 : Cond.constantLong RX12 274 (1000000 : Int64) ∈ zTb := zmt7 102 rfl rfl
theorem csRX12_276 : Cond.constantLong RX12 276 (-1000000 : Int64) ∈ zTb := zmt7 103 rfl rfl
theorem csRX12_285 : Cond.constantLong RX12 285 (2 : Int64) ∈ zTb := zmt7 91 rfl rfl
theorem csRX12_326 : Cond.constantLong RX12 326 (569 : Int64) ∈ zTb := zmt7 129 rfl rfl
theorem csRX12_328 : Cond.constantLong RX12 328 (439 : Int64) ∈ zTb := zmt7 130 rfl rfl
theorem csRX12_330 : Cond.constantLong RX12 330 (30781 : Int64) ∈ zTb := zmt7 131 rfl rfl
theorem csRX12_332 : Cond.constant RX12 332 (1000000 : Int32) ∈ zTb := zmt7 168 rfl rfl
theorem csRX12_336 : Cond.constant RX12 336 (639936 : Int32) ∈ zTb := zmt7 173 rfl rfl
theorem csRX12_509 : Cond.constantLong RX12 509 (-1 : Int64) ∈ zTb := zmt8 177 rfl rfl
theorem csRX12_511 : Cond.constantLong RX12 511 (10 : Int64) ∈ zTb := zmt8 178 rfl rfl
theorem csRJ6_265 : Cond.constant RJ6 265 (1431655765 : Int32) ∈ zTb := zmt4 54 rfl rfl
theorem csRJ6_266 : Cond.constant RJ6 266 (858993459 : Int32) ∈ zTb := zmt4 55 rfl rfl
theorem csRJ6_267 : Cond.constant RJ6 267 (252645135 : Int32) ∈ zTb := zmt4 56 rfl rfl
theorem csRJ13_314 : Cond.constantLong RJ13 314 (6148914691236517205 : Int64) ∈ zTb := zmt4 190 rfl rfl
theorem csRJ13_316 : Cond.constantLong RJ13 316 (3689348814741910323 : Int64) ∈ zTb := zmt4 191 rfl rfl
theorem csRJ13_318 : Cond.constantLong RJ13 318 (1085102592571150095 : Int64) ∈ zTb := zmt4 192 rfl rfl
theorem cpw {O : String} {i : Nat} (h : Cond.methodLink O i arraycopyName ∈ zTb) : Cond.methodLink O i arraycopyName ∈ zTb ∧ Cond.native arraycopyName ∈ zTb ∧ Cond.static arraycopyName ∈ zTb ∧ Cond.initialized "java/lang/System" ∈ zTb := ⟨h, zmt3 237 rfl rfl, zmt3 236 rfl rfl, zmt1 18 rfl rfl⟩
theorem mw_labs : zmw Lib.MathLoose.abs_long.x Lib.MathLoose.abs_long.code 2 (some .long) := ⟨zmt3 204 rfl rfl, zmt1 16 rfl rfl, zmt3 205 rfl rfl⟩
theorem mw_mmax : zmw Lib.Math.max.name Lib.Math.max.code 2 (some .int) := ⟨zmt3 29 rfl rfl, zmt1 16 rfl rfl, zmt3 30 rfl rfl⟩
theorem mw_lmax : zmw Lib.MathLoose.max_long.x Lib.MathLoose.max_long.code 4 (some .long) := ⟨zmt3 223 rfl rfl, zmt1 16 rfl rfl, zmt3 224 rfl rfl⟩
theorem mw_mmin : zmw Lib.Math.min.name Lib.Math.min.code 2 (some .int) := ⟨zmt3 6 rfl rfl, zmt1 16 rfl rfl, zmt3 7 rfl rfl⟩
theorem mw_lmin : zmw Lib.MathLoose.min_long.x Lib.MathLoose.min_long.code 4 (some .long) := ⟨zmt3 220 rfl rfl, zmt1 16 rfl rfl, zmt3 221 rfl rfl⟩
abbrev mX11_about : MM := (yX11_about, cX11_about, 2, (some .int))
theorem in_X11_about : zin mX11_about := ⟨zmt5 207 rfl rfl, by decide⟩
theorem cv_X11_about : zcV mX11_about 9 1 := ⟨⟨in_X11_about, Nat.le_of_ble_eq_true rfl, zmt1 1 rfl rfl, by decide, by decide, by decide +kernel⟩, by decide, ⟨_, rfl, rfl⟩, zmt5 205 rfl rfl, zmt5 206 rfl rfl⟩
abbrev mX11_agreesWithAllSaid : MM := (yX11_agreesWithAllSaid, cX11_agreesWithAllSaid, 5, (some .boolean))
theorem in_X11_agreesWithAllSaid : zin mX11_agreesWithAllSaid := ⟨zmt5 165 rfl rfl, by decide⟩
theorem cv_X11_agreesWithAllSaid : zcV mX11_agreesWithAllSaid 9 1 := ⟨⟨in_X11_agreesWithAllSaid, Nat.le_of_ble_eq_true rfl, zmt1 1 rfl rfl, by decide, by decide, by decide +kernel⟩, by decide, ⟨_, rfl, rfl⟩, zmt5 164 rfl rfl, (zmp4 5 rfl : Cond.selects _ yX11_agreesWithAllSaid yX11_agreesWithAllSaid ∈ zTb)⟩
abbrev mX11_allCords : MM := (yX11_allCords, cX11_allCords, 1, (some .int))
theorem in_X11_allCords : zin mX11_allCords := ⟨zmt4 156 rfl rfl, by decide⟩
theorem cv_X11_allCords : zcV mX11_allCords 9 0 := ⟨⟨in_X11_allCords, Nat.le_of_ble_eq_true rfl, zmt1 1 rfl rfl, by decide, by decide, by decide +kernel⟩, by decide, ⟨_, rfl, rfl⟩, zmt4 155 rfl rfl, (zmp3 5 rfl : Cond.selects _ yX11_allCords yX11_allCords ∈ zTb)⟩
abbrev mX11_back : MM := (yX11_back, cX11_back, 1, (some .int))
theorem in_X11_back : zin mX11_back := ⟨zmt5 203 rfl rfl, by decide⟩
theorem cv_X11_back : zcV mX11_back 9 0 := ⟨⟨in_X11_back, Nat.le_of_ble_eq_true rfl, zmt1 1 rfl rfl, by decide, by decide, by decide +kernel⟩, by decide, ⟨_, rfl, rfl⟩, zmt5 201 rfl rfl, zmt5 202 rfl rfl⟩
abbrev mX11_between : MM := (yX11_between, cX11_between, 4, (some .int))
theorem in_X11_between : zin mX11_between := ⟨zmt5 6 rfl rfl, by decide⟩
theorem cv_X11_between : zcV mX11_between 9 3 := ⟨⟨in_X11_between, Nat.le_of_ble_eq_true rfl, zmt1 1 rfl rfl, by decide, by decide, by decide +kernel⟩, by decide, ⟨_, rfl, rfl⟩, zmt5 4 rfl rfl, zmt5 5 rfl rfl⟩
abbrev mX11_book : MM := (yX11_book, cX11_book, 4, (some .int))
theorem in_X11_book : zin mX11_book := ⟨zmt4 131 rfl rfl, by decide⟩
theorem cv_X11_book : zcV mX11_book 9 2 := ⟨⟨in_X11_book, Nat.le_of_ble_eq_true rfl, zmt1 1 rfl rfl, by decide, by decide, by decide +kernel⟩, by decide, ⟨_, rfl, rfl⟩, zmt4 129 rfl rfl, zmt4 130 rfl rfl⟩
abbrev mX11_bundle : MM := (yX11_bundle, cX11_bundle, 2, (some .int))
theorem in_X11_bundle : zin mX11_bundle := ⟨zmt5 31 rfl rfl, by decide⟩
theorem cv_X11_bundle : zcV mX11_bundle 9 1 := ⟨⟨in_X11_bundle, Nat.le_of_ble_eq_true rfl, zmt1 1 rfl rfl, by decide, by decide, by decide +kernel⟩, by decide, ⟨_, rfl, rfl⟩, zmt5 29 rfl rfl, zmt5 30 rfl rfl⟩
abbrev mX11_burn : MM := (yX11_burn, cX11_burn, 2, (some .int))
theorem in_X11_burn : zin mX11_burn := ⟨zmt4 38 rfl rfl, by decide⟩
theorem cv_X11_burn : zcV mX11_burn 9 0 := ⟨⟨in_X11_burn, Nat.le_of_ble_eq_true rfl, zmt1 1 rfl rfl, by decide, by decide, by decide +kernel⟩, by decide, ⟨_, rfl, rfl⟩, zmt4 36 rfl rfl, zmt4 37 rfl rfl⟩
abbrev mX11_burning : MM := (yX11_burning, cX11_burning, 3, (some .int))
theorem in_X11_burning : zin mX11_burning := ⟨zmt5 173 rfl rfl, by decide⟩
theorem cv_X11_burning : zcV mX11_burning 9 0 := ⟨⟨in_X11_burning, Nat.le_of_ble_eq_true rfl, zmt1 1 rfl rfl, by decide, by decide, by decide +kernel⟩, by decide, ⟨_, rfl, rfl⟩, zmt5 171 rfl rfl, zmt5 172 rfl rfl⟩
abbrev mX11_by : MM := (yX11_by, cX11_by, 2, (some .boolean))
theorem in_X11_by : zin mX11_by := ⟨zmt3 157 rfl rfl, by decide⟩
theorem cv_X11_by : zcV mX11_by 9 1 := ⟨⟨in_X11_by, Nat.le_of_ble_eq_true rfl, zmt1 1 rfl rfl, by decide, by decide, by decide +kernel⟩, by decide, ⟨_, rfl, rfl⟩, zmt3 155 rfl rfl, zmt3 156 rfl rfl⟩
abbrev mX11_can : MM := (yX11_can, cX11_can, 3, (some .boolean))
theorem in_X11_can : zin mX11_can := ⟨zmt4 208 rfl rfl, by decide⟩
theorem cv_X11_can : zcV mX11_can 9 2 := ⟨⟨in_X11_can, Nat.le_of_ble_eq_true rfl, zmt1 1 rfl rfl, by decide, by decide, by decide +kernel⟩, by decide, ⟨_, rfl, rfl⟩, zmt4 206 rfl rfl, zmt4 207 rfl rfl⟩
abbrev mX11_canLight : MM := (yX11_canLight, cX11_canLight, 4, (some .boolean))
theorem in_X11_canLight : zin mX11_canLight := ⟨zmt3 169 rfl rfl, by decide⟩
theorem cv_X11_canLight : zcV mX11_canLight 9 2 := ⟨⟨in_X11_canLight, Nat.le_of_ble_eq_true rfl, zmt1 1 rfl rfl, by decide, by decide, by decide +kernel⟩, by decide, ⟨_, rfl, rfl⟩, zmt3 168 rfl rfl, (zmp2 6 rfl : Cond.selects _ yX11_canLight yX11_canLight ∈ zTb)⟩
abbrev mX11_canRenew : MM := (yX11_canRenew, cX11_canRenew, 3, (some .boolean))
theorem in_X11_canRenew : zin mX11_canRenew := ⟨zmt4 33 rfl rfl, by decide⟩
theorem cv_X11_canRenew : zcV mX11_canRenew 9 1 := ⟨⟨in_X11_canRenew, Nat.le_of_ble_eq_true rfl, zmt1 1 rfl rfl, by decide, by decide, by decide +kernel⟩, by decide, ⟨_, rfl, rfl⟩, zmt4 32 rfl rfl, (zmp2 14 rfl : Cond.selects _ yX11_canRenew yX11_canRenew ∈ zTb)⟩
abbrev mX11_carriedOut : MM := (yX11_carriedOut, cX11_carriedOut, 4, (some .boolean))
theorem in_X11_carriedOut : zin mX11_carriedOut := ⟨zmt4 83 rfl rfl, by decide⟩
theorem cv_X11_carriedOut : zcV mX11_carriedOut 9 3 := ⟨⟨in_X11_carriedOut, Nat.le_of_ble_eq_true rfl, zmt1 1 rfl rfl, by decide, by decide, by decide +kernel⟩, by decide, ⟨_, rfl, rfl⟩, zmt4 82 rfl rfl, (zmp3 0 rfl : Cond.selects _ yX11_carriedOut yX11_carriedOut ∈ zTb)⟩
abbrev mX11_cheapest : MM := (yX11_cheapest, cX11_cheapest, 6, (some .int))
theorem in_X11_cheapest : zin mX11_cheapest := ⟨zmt4 223 rfl rfl, by decide⟩
theorem cv_X11_cheapest : zcV mX11_cheapest 9 1 := ⟨⟨in_X11_cheapest, Nat.le_of_ble_eq_true rfl, zmt1 1 rfl rfl, by decide, by decide, by decide +kernel⟩, by decide, ⟨_, rfl, rfl⟩, zmt4 221 rfl rfl, zmt4 222 rfl rfl⟩
abbrev mX11_cord : MM := (yX11_cord, cX11_cord, 4, (some .int))
theorem in_X11_cord : zin mX11_cord := ⟨zmt2 126 rfl rfl, by decide⟩
theorem cv_X11_cord : zcV mX11_cord 9 2 := ⟨⟨in_X11_cord, Nat.le_of_ble_eq_true rfl, zmt1 1 rfl rfl, by decide, by decide, by decide +kernel⟩, by decide, ⟨_, rfl, rfl⟩, zmt2 124 rfl rfl, zmt2 125 rfl rfl⟩
abbrev mX11_crews : MM := (yX11_crews, cX11_crews, 3, (some .int))
theorem in_X11_crews : zin mX11_crews := ⟨zmt5 82 rfl rfl, by decide⟩
theorem cv_X11_crews : zcV mX11_crews 9 2 := ⟨⟨in_X11_crews, Nat.le_of_ble_eq_true rfl, zmt1 1 rfl rfl, by decide, by decide, by decide +kernel⟩, by decide, ⟨_, rfl, rfl⟩, zmt5 80 rfl rfl, zmt5 81 rfl rfl⟩
abbrev mX11_dead : MM := (yX11_dead, cX11_dead, 3, (some .int))
theorem in_X11_dead : zin mX11_dead := ⟨zmt5 177 rfl rfl, by decide⟩
theorem cv_X11_dead : zcV mX11_dead 9 0 := ⟨⟨in_X11_dead, Nat.le_of_ble_eq_true rfl, zmt1 1 rfl rfl, by decide, by decide, by decide +kernel⟩, by decide, ⟨_, rfl, rfl⟩, zmt5 175 rfl rfl, zmt5 176 rfl rfl⟩
abbrev mX11_end : MM := (yX11_end, cX11_end, 2, (some .int))
theorem in_X11_end : zin mX11_end := ⟨zmt2 157 rfl rfl, by decide⟩
theorem cv_X11_end : zcV mX11_end 9 1 := ⟨⟨in_X11_end, Nat.le_of_ble_eq_true rfl, zmt1 1 rfl rfl, by decide, by decide, by decide +kernel⟩, by decide, ⟨_, rfl, rfl⟩, zmt2 155 rfl rfl, zmt2 156 rfl rfl⟩
abbrev mX11_failsSays : MM := (yX11_failsSays, cX11_failsSays, 4, (some .int))
theorem in_X11_failsSays : zin mX11_failsSays := ⟨zmt4 5 rfl rfl, by decide⟩
theorem cv_X11_failsSays : zcV mX11_failsSays 9 2 := ⟨⟨in_X11_failsSays, Nat.le_of_ble_eq_true rfl, zmt1 1 rfl rfl, by decide, by decide, by decide +kernel⟩, by decide, ⟨_, rfl, rfl⟩, zmt4 4 rfl rfl, (zmp2 12 rfl : Cond.selects _ yX11_failsSays yX11_failsSays ∈ zTb)⟩
abbrev mX11_fault : MM := (yX11_fault, cX11_fault, 2, (some .int))
theorem in_X11_fault : zin mX11_fault := ⟨zmt3 153 rfl rfl, by decide⟩
theorem cv_X11_fault : zcV mX11_fault 9 1 := ⟨⟨in_X11_fault, Nat.le_of_ble_eq_true rfl, zmt1 1 rfl rfl, by decide, by decide, by decide +kernel⟩, by decide, ⟨_, rfl, rfl⟩, zmt3 151 rfl rfl, zmt3 152 rfl rfl⟩
abbrev mX11_feed : MM := (yX11_feed, cX11_feed, 6, (some .int))
theorem in_X11_feed : zin mX11_feed := ⟨zmt2 149 rfl rfl, by decide⟩
theorem cv_X11_feed : zcV mX11_feed 9 5 := ⟨⟨in_X11_feed, Nat.le_of_ble_eq_true rfl, zmt1 1 rfl rfl, by decide, by decide, by decide +kernel⟩, by decide, ⟨_, rfl, rfl⟩, zmt2 147 rfl rfl, zmt2 148 rfl rfl⟩
abbrev mX11_fewest : MM := (yX11_fewest, cX11_fewest, 5, (some .int))
theorem in_X11_fewest : zin mX11_fewest := ⟨zmt4 219 rfl rfl, by decide⟩
theorem cv_X11_fewest : zcV mX11_fewest 9 1 := ⟨⟨in_X11_fewest, Nat.le_of_ble_eq_true rfl, zmt1 1 rfl rfl, by decide, by decide, by decide +kernel⟩, by decide, ⟨_, rfl, rfl⟩, zmt4 217 rfl rfl, zmt4 218 rfl rfl⟩
abbrev mX11_findBundle : MM := (yX11_findBundle, cX11_findBundle, 3, (some .boolean))
theorem in_X11_findBundle : zin mX11_findBundle := ⟨zmt5 35 rfl rfl, by decide⟩
theorem cv_X11_findBundle : zcV mX11_findBundle 9 0 := ⟨⟨in_X11_findBundle, Nat.le_of_ble_eq_true rfl, zmt1 1 rfl rfl, by decide, by decide, by decide +kernel⟩, by decide, ⟨_, rfl, rfl⟩, zmt5 34 rfl rfl, (zmp3 15 rfl : Cond.selects _ yX11_findBundle yX11_findBundle ∈ zTb)⟩
abbrev mX11_foretold : MM := (yX11_foretold, cX11_foretold, 4, (some .int))
theorem in_X11_foretold : zin mX11_foretold := ⟨zmt4 138 rfl rfl, by decide⟩
theorem cv_X11_foretold : zcV mX11_foretold 9 2 := ⟨⟨in_X11_foretold, Nat.le_of_ble_eq_true rfl, zmt1 1 rfl rfl, by decide, by decide, by decide +kernel⟩, by decide, ⟨_, rfl, rfl⟩, zmt4 136 rfl rfl, zmt4 137 rfl rfl⟩
abbrev mX11_hands : MM := (yX11_hands, cX11_hands, 2, (some .boolean))
theorem in_X11_hands : zin mX11_hands := ⟨zmt2 145 rfl rfl, by decide⟩
theorem cv_X11_hands : zcV mX11_hands 9 1 := ⟨⟨in_X11_hands, Nat.le_of_ble_eq_true rfl, zmt1 1 rfl rfl, by decide, by decide, by decide +kernel⟩, by decide, ⟨_, rfl, rfl⟩, zmt2 143 rfl rfl, zmt2 144 rfl rfl⟩
abbrev mX11_hasText : MM := (yX11_hasText, cX11_hasText, 2, (some .boolean))
theorem in_X11_hasText : zin mX11_hasText := ⟨zmt3 161 rfl rfl, by decide⟩
theorem cv_X11_hasText : zcV mX11_hasText 9 1 := ⟨⟨in_X11_hasText, Nat.le_of_ble_eq_true rfl, zmt1 1 rfl rfl, by decide, by decide, by decide +kernel⟩, by decide, ⟨_, rfl, rfl⟩, zmt3 160 rfl rfl, (zmp2 5 rfl : Cond.selects _ yX11_hasText yX11_hasText ∈ zTb)⟩
abbrev mX11_image : MM := (yX11_image, cX11_image, 1, (some .int))
theorem in_X11_image : zin mX11_image := ⟨zmt5 185 rfl rfl, by decide⟩
theorem cv_X11_image : zcV mX11_image 9 0 := ⟨⟨in_X11_image, Nat.le_of_ble_eq_true rfl, zmt1 1 rfl rfl, by decide, by decide, by decide +kernel⟩, by decide, ⟨_, rfl, rfl⟩, zmt5 183 rfl rfl, zmt5 184 rfl rfl⟩
abbrev mX11_inLowestTerms : MM := (yX11_inLowestTerms, cX11_inLowestTerms, 12, (some .long))
theorem in_X11_inLowestTerms : zin mX11_inLowestTerms := ⟨zmt5 149 rfl rfl, by decide⟩
theorem cv_X11_inLowestTerms : zcS mX11_inLowestTerms 3 := ⟨⟨in_X11_inLowestTerms, Nat.le_of_ble_eq_true rfl, zmt1 1 rfl rfl, by decide, by decide, by decide +kernel⟩, zmt5 148 rfl rfl⟩
abbrev mX11_is : MM := (yX11_is, cX11_is, 2, (some .int))
theorem in_X11_is : zin mX11_is := ⟨zmt4 126 rfl rfl, by decide⟩
theorem cv_X11_is : zcV mX11_is 9 1 := ⟨⟨in_X11_is, Nat.le_of_ble_eq_true rfl, zmt1 1 rfl rfl, by decide, by decide, by decide +kernel⟩, by decide, ⟨_, rfl, rfl⟩, zmt4 124 rfl rfl, zmt4 125 rfl rfl⟩
abbrev mX11_isSet : MM := (yX11_isSet, cX11_isSet, 2, (some .boolean))
theorem in_X11_isSet : zin mX11_isSet := ⟨zmt4 152 rfl rfl, by decide⟩
theorem cv_X11_isSet : zcV mX11_isSet 9 1 := ⟨⟨in_X11_isSet, Nat.le_of_ble_eq_true rfl, zmt1 1 rfl rfl, by decide, by decide, by decide +kernel⟩, by decide, ⟨_, rfl, rfl⟩, zmt4 151 rfl rfl, (zmp3 4 rfl : Cond.selects _ yX11_isSet yX11_isSet ∈ zTb)⟩
abbrev mX11_isSpan : MM := (yX11_isSpan, cX11_isSpan, 1, (some .boolean))
theorem in_X11_isSpan : zin mX11_isSpan := ⟨zmt4 215 rfl rfl, by decide⟩
theorem cv_X11_isSpan : zcS mX11_isSpan 1 := ⟨⟨in_X11_isSpan, Nat.le_of_ble_eq_true rfl, zmt1 1 rfl rfl, by decide, by decide, by decide +kernel⟩, zmt4 214 rfl rfl⟩
abbrev mX11_kindle : MM := (yX11_kindle, cX11_kindle, 5, (some .int))
theorem in_X11_kindle : zin mX11_kindle := ⟨zmt4 1 rfl rfl, by decide⟩
theorem cv_X11_kindle : zcV mX11_kindle 9 2 := ⟨⟨in_X11_kindle, Nat.le_of_ble_eq_true rfl, zmt1 1 rfl rfl, by decide, by decide, by decide +kernel⟩, by decide, ⟨_, rfl, rfl⟩, zmt4 0 rfl rfl, (zmp2 11 rfl : Cond.selects _ yX11_kindle yX11_kindle ∈ zTb)⟩
abbrev mX11_law : MM := (yX11_law, cX11_law, 4, (some .int))
theorem in_X11_law : zin mX11_law := ⟨zmt4 122 rfl rfl, by decide⟩
theorem cv_X11_law : zcV mX11_law 9 3 := ⟨⟨in_X11_law, Nat.le_of_ble_eq_true rfl, zmt1 1 rfl rfl, by decide, by decide, by decide +kernel⟩, by decide, ⟨_, rfl, rfl⟩, zmt4 120 rfl rfl, zmt4 121 rfl rfl⟩
abbrev mX11_ledger : MM := (yX11_ledger, cX11_ledger, 4, (some .int))
theorem in_X11_ledger : zin mX11_ledger := ⟨zmt5 181 rfl rfl, by decide⟩
theorem cv_X11_ledger : zcV mX11_ledger 9 1 := ⟨⟨in_X11_ledger, Nat.le_of_ble_eq_true rfl, zmt1 1 rfl rfl, by decide, by decide, by decide +kernel⟩, by decide, ⟨_, rfl, rfl⟩, zmt5 179 rfl rfl, zmt5 180 rfl rfl⟩
abbrev mX11_light : MM := (yX11_light, cX11_light, 4, (some .int))
theorem in_X11_light : zin mX11_light := ⟨zmt3 165 rfl rfl, by decide⟩
theorem cv_X11_light : zcV mX11_light 9 2 := ⟨⟨in_X11_light, Nat.le_of_ble_eq_true rfl, zmt1 1 rfl rfl, by decide, by decide, by decide +kernel⟩, by decide, ⟨_, rfl, rfl⟩, zmt3 163 rfl rfl, zmt3 164 rfl rfl⟩
abbrev mX11_lightsSays : MM := (yX11_lightsSays, cX11_lightsSays, 4, (some .int))
theorem in_X11_lightsSays : zin mX11_lightsSays := ⟨zmt3 182 rfl rfl, by decide⟩
theorem cv_X11_lightsSays : zcV mX11_lightsSays 9 2 := ⟨⟨in_X11_lightsSays, Nat.le_of_ble_eq_true rfl, zmt1 1 rfl rfl, by decide, by decide, by decide +kernel⟩, by decide, ⟨_, rfl, rfl⟩, zmt3 181 rfl rfl, (zmp2 7 rfl : Cond.selects _ yX11_lightsSays yX11_lightsSays ∈ zTb)⟩
abbrev mX11_longest : MM := (yX11_longest, cX11_longest, 4, (some .int))
theorem in_X11_longest : zin mX11_longest := ⟨zmt5 169 rfl rfl, by decide⟩
theorem cv_X11_longest : zcV mX11_longest 9 0 := ⟨⟨in_X11_longest, Nat.le_of_ble_eq_true rfl, zmt1 1 rfl rfl, by decide, by decide, by decide +kernel⟩, by decide, ⟨_, rfl, rfl⟩, zmt5 167 rfl rfl, zmt5 168 rfl rfl⟩
abbrev mX11_minute : MM := (yX11_minute, cX11_minute, 4, (some .int))
theorem in_X11_minute : zin mX11_minute := ⟨zmt4 71 rfl rfl, by decide⟩
theorem cv_X11_minute : zcV mX11_minute 9 1 := ⟨⟨in_X11_minute, Nat.le_of_ble_eq_true rfl, zmt1 1 rfl rfl, by decide, by decide, by decide +kernel⟩, by decide, ⟨_, rfl, rfl⟩, zmt4 69 rfl rfl, zmt4 70 rfl rfl⟩
abbrev mX11_minutesPassed : MM := (yX11_minutesPassed, cX11_minutesPassed, 3, (some .boolean))
theorem in_X11_minutesPassed : zin mX11_minutesPassed := ⟨zmt4 93 rfl rfl, by decide⟩
theorem cv_X11_minutesPassed : zcV mX11_minutesPassed 9 1 := ⟨⟨in_X11_minutesPassed, Nat.le_of_ble_eq_true rfl, zmt1 1 rfl rfl, by decide, by decide, by decide +kernel⟩, by decide, ⟨_, rfl, rfl⟩, zmt4 92 rfl rfl, (zmp3 1 rfl : Cond.selects _ yX11_minutesPassed yX11_minutesPassed ∈ zTb)⟩
abbrev mX11_nearest : MM := (yX11_nearest, cX11_nearest, 3, (some .int))
theorem in_X11_nearest : zin mX11_nearest := ⟨zmt5 10 rfl rfl, by decide⟩
theorem cv_X11_nearest : zcV mX11_nearest 9 2 := ⟨⟨in_X11_nearest, Nat.le_of_ble_eq_true rfl, zmt1 1 rfl rfl, by decide, by decide, by decide +kernel⟩, by decide, ⟨_, rfl, rfl⟩, zmt5 8 rfl rfl, zmt5 9 rfl rfl⟩
abbrev mX11_of : MM := (yX11_of, cX11_of, 3, (some .int))
theorem in_X11_of : zin mX11_of := ⟨zmt4 118 rfl rfl, by decide⟩
theorem cv_X11_of : zcV mX11_of 9 2 := ⟨⟨in_X11_of, Nat.le_of_ble_eq_true rfl, zmt1 1 rfl rfl, by decide, by decide, by decide +kernel⟩, by decide, ⟨_, rfl, rfl⟩, zmt4 116 rfl rfl, zmt4 117 rfl rfl⟩
abbrev mX11_out : MM := (yX11_out, cX11_out, 2, (some .int))
theorem in_X11_out : zin mX11_out := ⟨zmt4 143 rfl rfl, by decide⟩
theorem cv_X11_out : zcV mX11_out 9 1 := ⟨⟨in_X11_out, Nat.le_of_ble_eq_true rfl, zmt1 1 rfl rfl, by decide, by decide, by decide +kernel⟩, by decide, ⟨_, rfl, rfl⟩, zmt4 141 rfl rfl, zmt4 142 rfl rfl⟩
abbrev mX11_part : MM := (yX11_part, cX11_part, 2, (some .int))
theorem in_X11_part : zin mX11_part := ⟨zmt5 74 rfl rfl, by decide⟩
theorem cv_X11_part : zcV mX11_part 9 1 := ⟨⟨in_X11_part, Nat.le_of_ble_eq_true rfl, zmt1 1 rfl rfl, by decide, by decide, by decide +kernel⟩, by decide, ⟨_, rfl, rfl⟩, zmt5 72 rfl rfl, zmt5 73 rfl rfl⟩
abbrev mX11_partOfLine : MM := (yX11_partOfLine, cX11_partOfLine, 2, (some .int))
theorem in_X11_partOfLine : zin mX11_partOfLine := ⟨zmt4 134 rfl rfl, by decide⟩
theorem cv_X11_partOfLine : zcS mX11_partOfLine 2 := ⟨⟨in_X11_partOfLine, Nat.le_of_ble_eq_true rfl, zmt1 1 rfl rfl, by decide, by decide, by decide +kernel⟩, zmt4 133 rfl rfl⟩
abbrev mX11_played : MM := (yX11_played, cX11_played, 4, (some .int))
theorem in_X11_played : zin mX11_played := ⟨zmt4 79 rfl rfl, by decide⟩
theorem cv_X11_played : zcV mX11_played 9 1 := ⟨⟨in_X11_played, Nat.le_of_ble_eq_true rfl, zmt1 1 rfl rfl, by decide, by decide, by decide +kernel⟩, by decide, ⟨_, rfl, rfl⟩, zmt4 77 rfl rfl, zmt4 78 rfl rfl⟩
abbrev mX11_power : MM := (yX11_power, cX11_power, 6, (some .long))
theorem in_X11_power : zin mX11_power := ⟨zmt5 145 rfl rfl, by decide⟩
theorem cv_X11_power : zcS mX11_power 2 := ⟨⟨in_X11_power, Nat.le_of_ble_eq_true rfl, zmt1 1 rfl rfl, by decide, by decide, by decide +kernel⟩, zmt5 144 rfl rfl⟩
abbrev mX11_renew : MM := (yX11_renew, cX11_renew, 2, (some .boolean))
theorem in_X11_renew : zin mX11_renew := ⟨zmt4 29 rfl rfl, by decide⟩
theorem cv_X11_renew : zcV mX11_renew 9 1 := ⟨⟨in_X11_renew, Nat.le_of_ble_eq_true rfl, zmt1 1 rfl rfl, by decide, by decide, by decide +kernel⟩, by decide, ⟨_, rfl, rfl⟩, zmt4 27 rfl rfl, zmt4 28 rfl rfl⟩
abbrev mX11_right : MM := (yX11_right, cX11_right, 6, (some .long))
theorem in_X11_right : zin mX11_right := ⟨zmt5 141 rfl rfl, by decide⟩
theorem cv_X11_right : zcV mX11_right 9 3 := ⟨⟨in_X11_right, Nat.le_of_ble_eq_true rfl, zmt1 1 rfl rfl, by decide, by decide, by decide +kernel⟩, by decide, ⟨_, rfl, rfl⟩, zmt5 139 rfl rfl, zmt5 140 rfl rfl⟩
abbrev mX11_row : MM := (yX11_row, cX11_row, 4, (some .int))
theorem in_X11_row : zin mX11_row := ⟨zmt4 231 rfl rfl, by decide⟩
theorem cv_X11_row : zcV mX11_row 9 3 := ⟨⟨in_X11_row, Nat.le_of_ble_eq_true rfl, zmt1 1 rfl rfl, by decide, by decide, by decide +kernel⟩, by decide, ⟨_, rfl, rfl⟩, zmt4 229 rfl rfl, zmt4 230 rfl rfl⟩
abbrev mX11_said : MM := (yX11_said, cX11_said, 3, (some .int))
theorem in_X11_said : zin mX11_said := ⟨zmt5 157 rfl rfl, by decide⟩
theorem cv_X11_said : zcV mX11_said 9 2 := ⟨⟨in_X11_said, Nat.le_of_ble_eq_true rfl, zmt1 1 rfl rfl, by decide, by decide, by decide +kernel⟩, by decide, ⟨_, rfl, rfl⟩, zmt5 155 rfl rfl, zmt5 156 rfl rfl⟩
abbrev mX11_setsGiving : MM := (yX11_setsGiving, cX11_setsGiving, 4, (some .int))
theorem in_X11_setsGiving : zin mX11_setsGiving := ⟨zmt5 45 rfl rfl, by decide⟩
theorem cv_X11_setsGiving : zcV mX11_setsGiving 9 1 := ⟨⟨in_X11_setsGiving, Nat.le_of_ble_eq_true rfl, zmt1 1 rfl rfl, by decide, by decide, by decide +kernel⟩, by decide, ⟨_, rfl, rfl⟩, zmt5 44 rfl rfl, (zmp4 0 rfl : Cond.selects _ yX11_setsGiving yX11_setsGiving ∈ zTb)⟩
abbrev mX11_shiftBy : MM := (yX11_shiftBy, cX11_shiftBy, 4, none)
theorem in_X11_shiftBy : zin mX11_shiftBy := ⟨zmt4 102 rfl rfl, by decide⟩
theorem cv_X11_shiftBy : zcV mX11_shiftBy 9 1 := ⟨⟨in_X11_shiftBy, Nat.le_of_ble_eq_true rfl, zmt1 1 rfl rfl, by decide, by decide, by decide +kernel⟩, by decide, ⟨_, rfl, rfl⟩, zmt4 101 rfl rfl, (zmp3 2 rfl : Cond.selects _ yX11_shiftBy yX11_shiftBy ∈ zTb)⟩
abbrev mX11_shiftCord : MM := (yX11_shiftCord, cX11_shiftCord, 4, none)
theorem in_X11_shiftCord : zin mX11_shiftCord := ⟨zmt4 106 rfl rfl, by decide⟩
theorem cv_X11_shiftCord : zcV mX11_shiftCord 9 3 := ⟨⟨in_X11_shiftCord, Nat.le_of_ble_eq_true rfl, zmt1 1 rfl rfl, by decide, by decide, by decide +kernel⟩, by decide, ⟨_, rfl, rfl⟩, zmt4 105 rfl rfl, (zmp3 3 rfl : Cond.selects _ yX11_shiftCord yX11_shiftCord ∈ zTb)⟩
abbrev mX11_shifts : MM := (yX11_shifts, cX11_shifts, 4, (some .int))
theorem in_X11_shifts : zin mX11_shifts := ⟨zmt4 98 rfl rfl, by decide⟩
theorem cv_X11_shifts : zcV mX11_shifts 9 2 := ⟨⟨in_X11_shifts, Nat.le_of_ble_eq_true rfl, zmt1 1 rfl rfl, by decide, by decide, by decide +kernel⟩, by decide, ⟨_, rfl, rfl⟩, zmt4 96 rfl rfl, zmt4 97 rfl rfl⟩
abbrev mX11_snuff : MM := (yX11_snuff, cX11_snuff, 4, (some .boolean))
theorem in_X11_snuff : zin mX11_snuff := ⟨zmt4 21 rfl rfl, by decide⟩
theorem cv_X11_snuff : zcV mX11_snuff 9 2 := ⟨⟨in_X11_snuff, Nat.le_of_ble_eq_true rfl, zmt1 1 rfl rfl, by decide, by decide, by decide +kernel⟩, by decide, ⟨_, rfl, rfl⟩, zmt4 19 rfl rfl, zmt4 20 rfl rfl⟩
abbrev mX11_spans : MM := (yX11_spans, cX11_spans, 3, (some .int))
theorem in_X11_spans : zin mX11_spans := ⟨zmt4 148 rfl rfl, by decide⟩
theorem cv_X11_spans : zcV mX11_spans 9 2 := ⟨⟨in_X11_spans, Nat.le_of_ble_eq_true rfl, zmt1 1 rfl rfl, by decide, by decide, by decide +kernel⟩, by decide, ⟨_, rfl, rfl⟩, zmt4 146 rfl rfl, zmt4 147 rfl rfl⟩
abbrev mX11_suspectSets : MM := (yX11_suspectSets, cX11_suspectSets, 3, (some .int))
theorem in_X11_suspectSets : zin mX11_suspectSets := ⟨zmt5 113 rfl rfl, by decide⟩
theorem cv_X11_suspectSets : zcV mX11_suspectSets 9 0 := ⟨⟨in_X11_suspectSets, Nat.le_of_ble_eq_true rfl, zmt1 1 rfl rfl, by decide, by decide, by decide +kernel⟩, by decide, ⟨_, rfl, rfl⟩, zmt5 112 rfl rfl, (zmp4 4 rfl : Cond.selects _ yX11_suspectSets yX11_suspectSets ∈ zTb)⟩
abbrev mX11_suspects : MM := (yX11_suspects, cX11_suspects, 3, (some .int))
theorem in_X11_suspects : zin mX11_suspects := ⟨zmt5 109 rfl rfl, by decide⟩
theorem cv_X11_suspects : zcV mX11_suspects 9 1 := ⟨⟨in_X11_suspects, Nat.le_of_ble_eq_true rfl, zmt1 1 rfl rfl, by decide, by decide, by decide +kernel⟩, by decide, ⟨_, rfl, rfl⟩, zmt5 107 rfl rfl, zmt5 108 rfl rfl⟩
abbrev mX11_take : MM := (yX11_take, cX11_take, 3, (some .int))
theorem in_X11_take : zin mX11_take := ⟨zmt5 94 rfl rfl, by decide⟩
theorem cv_X11_take : zcV mX11_take 9 2 := ⟨⟨in_X11_take, Nat.le_of_ble_eq_true rfl, zmt1 1 rfl rfl, by decide, by decide, by decide +kernel⟩, by decide, ⟨_, rfl, rfl⟩, zmt5 92 rfl rfl, zmt5 93 rfl rfl⟩
abbrev mX11_test : MM := (yX11_test, cX11_test, 2, (some .int))
theorem in_X11_test : zin mX11_test := ⟨zmt5 129 rfl rfl, by decide⟩
theorem cv_X11_test : zcV mX11_test 9 0 := ⟨⟨in_X11_test, Nat.le_of_ble_eq_true rfl, zmt1 1 rfl rfl, by decide, by decide, by decide +kernel⟩, by decide, ⟨_, rfl, rfl⟩, zmt5 127 rfl rfl, zmt5 128 rfl rfl⟩
abbrev mX11_text : MM := (yX11_text, cX11_text, 1, (some .int))
theorem in_X11_text : zin mX11_text := ⟨zmt2 161 rfl rfl, by decide⟩
theorem cv_X11_text : zcV mX11_text 9 0 := ⟨⟨in_X11_text, Nat.le_of_ble_eq_true rfl, zmt1 1 rfl rfl, by decide, by decide, by decide +kernel⟩, by decide, ⟨_, rfl, rfl⟩, zmt2 159 rfl rfl, zmt2 160 rfl rfl⟩
abbrev mX11_tried : MM := (yX11_tried, cX11_tried, 4, (some .int))
theorem in_X11_tried : zin mX11_tried := ⟨zmt5 105 rfl rfl, by decide⟩
theorem cv_X11_tried : zcV mX11_tried 9 2 := ⟨⟨in_X11_tried, Nat.le_of_ble_eq_true rfl, zmt1 1 rfl rfl, by decide, by decide, by decide +kernel⟩, by decide, ⟨_, rfl, rfl⟩, zmt5 103 rfl rfl, zmt5 104 rfl rfl⟩
abbrev mX11_tries : MM := (yX11_tries, cX11_tries, 10, (some .long))
theorem in_X11_tries : zin mX11_tries := ⟨zmt5 153 rfl rfl, by decide⟩
theorem cv_X11_tries : zcV mX11_tries 9 4 := ⟨⟨in_X11_tries, Nat.le_of_ble_eq_true rfl, zmt1 1 rfl rfl, by decide, by decide, by decide +kernel⟩, by decide, ⟨_, rfl, rfl⟩, zmt5 151 rfl rfl, zmt5 152 rfl rfl⟩
abbrev mX11_undo : MM := (yX11_undo, cX11_undo, 3, (some .int))
theorem in_X11_undo : zin mX11_undo := ⟨zmt4 110 rfl rfl, by decide⟩
theorem cv_X11_undo : zcV mX11_undo 9 0 := ⟨⟨in_X11_undo, Nat.le_of_ble_eq_true rfl, zmt1 1 rfl rfl, by decide, by decide, by decide +kernel⟩, by decide, ⟨_, rfl, rfl⟩, zmt4 108 rfl rfl, zmt4 109 rfl rfl⟩
abbrev mX11_want : MM := (yX11_want, cX11_want, 2, (some .int))
theorem in_X11_want : zin mX11_want := ⟨zmt5 23 rfl rfl, by decide⟩
theorem cv_X11_want : zcV mX11_want 9 1 := ⟨⟨in_X11_want, Nat.le_of_ble_eq_true rfl, zmt1 1 rfl rfl, by decide, by decide, by decide +kernel⟩, by decide, ⟨_, rfl, rfl⟩, zmt5 21 rfl rfl, zmt5 22 rfl rfl⟩
abbrev mX11_wet : MM := (yX11_wet, cX11_wet, 3, (some .boolean))
theorem in_X11_wet : zin mX11_wet := ⟨zmt5 101 rfl rfl, by decide⟩
theorem cv_X11_wet : zcV mX11_wet 9 2 := ⟨⟨in_X11_wet, Nat.le_of_ble_eq_true rfl, zmt1 1 rfl rfl, by decide, by decide, by decide +kernel⟩, by decide, ⟨_, rfl, rfl⟩, zmt5 99 rfl rfl, zmt5 100 rfl rfl⟩
abbrev mX11_whose : MM := (yX11_whose, cX11_whose, 3, (some .int))
theorem in_X11_whose : zin mX11_whose := ⟨zmt5 161 rfl rfl, by decide⟩
theorem cv_X11_whose : zcV mX11_whose 9 0 := ⟨⟨in_X11_whose, Nat.le_of_ble_eq_true rfl, zmt1 1 rfl rfl, by decide, by decide, by decide +kernel⟩, by decide, ⟨_, rfl, rfl⟩, zmt5 159 rfl rfl, zmt5 160 rfl rfl⟩
abbrev mX11_within : MM := (yX11_within, cX11_within, 3, (some .boolean))
theorem in_X11_within : zin mX11_within := ⟨zmt2 129 rfl rfl, by decide⟩
theorem cv_X11_within : zcS mX11_within 3 := ⟨⟨in_X11_within, Nat.le_of_ble_eq_true rfl, zmt1 1 rfl rfl, by decide, by decide, by decide +kernel⟩, zmt2 128 rfl rfl⟩
abbrev mX0_begin : MM := (yX0_begin, cX0_begin, 2, none)
theorem in_X0_begin : zin mX0_begin := ⟨zmt5 39 rfl rfl, by decide⟩
theorem cv_X0_begin : zcV mX0_begin 0 1 := ⟨⟨in_X0_begin, Nat.le_of_ble_eq_true rfl, zmt1 9 rfl rfl, by decide, by decide, by decide +kernel⟩, by decide, ⟨_, rfl, rfl⟩, zmt5 37 rfl rfl, zmt5 38 rfl rfl⟩
abbrev mX0_cords : MM := (yX0_cords, cX0_cords, 1, (some .int))
theorem in_X0_cords : zin mX0_cords := ⟨zmt5 69 rfl rfl, by decide⟩
theorem cv_X0_cords : zcV mX0_cords 0 0 := ⟨⟨in_X0_cords, Nat.le_of_ble_eq_true rfl, zmt1 9 rfl rfl, by decide, by decide, by decide +kernel⟩, by decide, ⟨_, rfl, rfl⟩, zmt5 67 rfl rfl, zmt5 68 rfl rfl⟩
abbrev mX0_find : MM := (yX0_find, cX0_find, 7, (some .boolean))
theorem in_X0_find : zin mX0_find := ⟨zmt5 49 rfl rfl, by decide⟩
theorem cv_X0_find : zcV mX0_find 0 2 := ⟨⟨in_X0_find, Nat.le_of_ble_eq_true rfl, zmt1 9 rfl rfl, by decide, by decide, by decide +kernel⟩, by decide, ⟨_, rfl, rfl⟩, zmt5 47 rfl rfl, zmt5 48 rfl rfl⟩
abbrev mX0_givesAll : MM := (yX0_givesAll, cX0_givesAll, 2, (some .boolean))
theorem in_X0_givesAll : zin mX0_givesAll := ⟨zmt5 57 rfl rfl, by decide⟩
theorem cv_X0_givesAll : zcV mX0_givesAll 0 0 := ⟨⟨in_X0_givesAll, Nat.le_of_ble_eq_true rfl, zmt1 9 rfl rfl, by decide, by decide, by decide +kernel⟩, by decide, ⟨_, rfl, rfl⟩, zmt5 56 rfl rfl, (zmp4 2 rfl : Cond.selects _ yX0_givesAll yX0_givesAll ∈ zTb)⟩
abbrev mX0_rank : MM := (yX0_rank, cX0_rank, 6, (some .long))
theorem in_X0_rank : zin mX0_rank := ⟨zmt5 61 rfl rfl, by decide⟩
theorem cv_X0_rank : zcV mX0_rank 0 1 := ⟨⟨in_X0_rank, Nat.le_of_ble_eq_true rfl, zmt1 9 rfl rfl, by decide, by decide, by decide +kernel⟩, by decide, ⟨_, rfl, rfl⟩, zmt5 60 rfl rfl, (zmp4 3 rfl : Cond.selects _ yX0_rank yX0_rank ∈ zTb)⟩
abbrev mX0_share : MM := (yX0_share, cX0_share, 2, (some .int))
theorem in_X0_share : zin mX0_share := ⟨zmt5 78 rfl rfl, by decide⟩
theorem cv_X0_share : zcV mX0_share 0 1 := ⟨⟨in_X0_share, Nat.le_of_ble_eq_true rfl, zmt1 9 rfl rfl, by decide, by decide, by decide +kernel⟩, by decide, ⟨_, rfl, rfl⟩, zmt5 76 rfl rfl, zmt5 77 rfl rfl⟩
abbrev mX0_shareOut : MM := (yX0_shareOut, cX0_shareOut, 5, none)
theorem in_X0_shareOut : zin mX0_shareOut := ⟨zmt5 53 rfl rfl, by decide⟩
theorem cv_X0_shareOut : zcV mX0_shareOut 0 1 := ⟨⟨in_X0_shareOut, Nat.le_of_ble_eq_true rfl, zmt1 9 rfl rfl, by decide, by decide, by decide +kernel⟩, by decide, ⟨_, rfl, rfl⟩, zmt5 52 rfl rfl, (zmp4 1 rfl : Cond.selects _ yX0_shareOut yX0_shareOut ∈ zTb)⟩
abbrev mX1_behindTaking : MM := (yX1_behindTaking, cX1_behindTaking, 5, (some .int))
theorem in_X1_behindTaking : zin mX1_behindTaking := ⟨zmt5 88 rfl rfl, by decide⟩
theorem cv_X1_behindTaking : zcS mX1_behindTaking 5 := ⟨⟨in_X1_behindTaking, Nat.le_of_ble_eq_true rfl, zmt1 21 rfl rfl, by decide, by decide, by decide +kernel⟩, zmt5 87 rfl rfl⟩
abbrev mX1_bestFirst : MM := (yX1_bestFirst, cX1_bestFirst, 6, (some .int))
theorem in_X1_bestFirst : zin mX1_bestFirst := ⟨zmt5 97 rfl rfl, by decide⟩
theorem cv_X1_bestFirst : zcS mX1_bestFirst 3 := ⟨⟨in_X1_bestFirst, Nat.le_of_ble_eq_true rfl, zmt1 21 rfl rfl, by decide, by decide, by decide +kernel⟩, zmt5 96 rfl rfl⟩
abbrev mX1_outcome : MM := (yX1_outcome, cX1_outcome, 8, (some .int))
theorem in_X1_outcome : zin mX1_outcome := ⟨zmt5 85 rfl rfl, by decide⟩
theorem cv_X1_outcome : zcS mX1_outcome 5 := ⟨⟨in_X1_outcome, Nat.le_of_ble_eq_true rfl, zmt1 21 rfl rfl, by decide, by decide, by decide +kernel⟩, zmt5 84 rfl rfl⟩
abbrev mX2_burns : MM := (yX2_burns, cX2_burns, 3, (some .boolean))
theorem in_X2_burns : zin mX2_burns := ⟨zmt3 177 rfl rfl, by decide⟩
theorem cv_X2_burns : zcV mX2_burns 1 2 := ⟨⟨in_X2_burns, Nat.le_of_ble_eq_true rfl, zmt1 3 rfl rfl, by decide, by decide, by decide +kernel⟩, by decide, ⟨_, rfl, rfl⟩, zmt3 175 rfl rfl, zmt3 176 rfl rfl⟩
abbrev mX2_copy : MM := (yX2_copy, cX2_copy, 2, none)
theorem in_X2_copy : zin mX2_copy := ⟨zmt3 234 rfl rfl, by decide⟩
theorem cv_X2_copy : zcV mX2_copy 1 1 := ⟨⟨in_X2_copy, Nat.le_of_ble_eq_true rfl, zmt1 3 rfl rfl, by decide, by decide, by decide +kernel⟩, by decide, ⟨_, rfl, rfl⟩, zmt3 232 rfl rfl, zmt3 233 rfl rfl⟩
abbrev mX2_draw : MM := (yX2_draw, cX2_draw, 2, (some .int))
theorem in_X2_draw : zin mX2_draw := ⟨zmt4 9 rfl rfl, by decide⟩
theorem cv_X2_draw : zcV mX2_draw 1 0 := ⟨⟨in_X2_draw, Nat.le_of_ble_eq_true rfl, zmt1 3 rfl rfl, by decide, by decide, by decide +kernel⟩, by decide, ⟨_, rfl, rfl⟩, zmt4 7 rfl rfl, zmt4 8 rfl rfl⟩
abbrev mX2_endsBurning : MM := (yX2_endsBurning, cX2_endsBurning, 3, (some .int))
theorem in_X2_endsBurning : zin mX2_endsBurning := ⟨zmt3 198 rfl rfl, by decide⟩
theorem cv_X2_endsBurning : zcV mX2_endsBurning 1 0 := ⟨⟨in_X2_endsBurning, Nat.le_of_ble_eq_true rfl, zmt1 3 rfl rfl, by decide, by decide, by decide +kernel⟩, by decide, ⟨_, rfl, rfl⟩, zmt3 196 rfl rfl, zmt3 197 rfl rfl⟩
abbrev mX2_has : MM := (yX2_has, cX2_has, 2, (some .boolean))
theorem in_X2_has : zin mX2_has := ⟨zmt3 173 rfl rfl, by decide⟩
theorem cv_X2_has : zcV mX2_has 1 1 := ⟨⟨in_X2_has, Nat.le_of_ble_eq_true rfl, zmt1 3 rfl rfl, by decide, by decide, by decide +kernel⟩, by decide, ⟨_, rfl, rfl⟩, zmt3 171 rfl rfl, zmt3 172 rfl rfl⟩
abbrev mX2_hasTimeFor : MM := (yX2_hasTimeFor, cX2_hasTimeFor, 2, (some .boolean))
theorem in_X2_hasTimeFor : zin mX2_hasTimeFor := ⟨zmt4 75 rfl rfl, by decide⟩
theorem cv_X2_hasTimeFor : zcV mX2_hasTimeFor 1 1 := ⟨⟨in_X2_hasTimeFor, Nat.le_of_ble_eq_true rfl, zmt1 3 rfl rfl, by decide, by decide, by decide +kernel⟩, by decide, ⟨_, rfl, rfl⟩, zmt4 73 rfl rfl, zmt4 74 rfl rfl⟩
abbrev mX2_lay : MM := (yX2_lay, cX2_lay, 2, none)
theorem in_X2_lay : zin mX2_lay := ⟨zmt2 133 rfl rfl, by decide⟩
theorem cv_X2_lay : zcV mX2_lay 1 1 := ⟨⟨in_X2_lay, Nat.le_of_ble_eq_true rfl, zmt1 3 rfl rfl, by decide, by decide, by decide +kernel⟩, by decide, ⟨_, rfl, rfl⟩, zmt2 131 rfl rfl, zmt2 132 rfl rfl⟩
abbrev mX2_makeNew : MM := (yX2_makeNew, cX2_makeNew, 3, none)
theorem in_X2_makeNew : zin mX2_makeNew := ⟨zmt2 137 rfl rfl, by decide⟩
theorem cv_X2_makeNew : zcV mX2_makeNew 1 2 := ⟨⟨in_X2_makeNew, Nat.le_of_ble_eq_true rfl, zmt1 3 rfl rfl, by decide, by decide, by decide +kernel⟩, by decide, ⟨_, rfl, rfl⟩, zmt2 135 rfl rfl, zmt2 136 rfl rfl⟩
abbrev mX2_pass : MM := (yX2_pass, cX2_pass, 7, (some .int))
theorem in_X2_pass : zin mX2_pass := ⟨zmt4 61 rfl rfl, by decide⟩
theorem cv_X2_pass : zcV mX2_pass 1 1 := ⟨⟨in_X2_pass, Nat.le_of_ble_eq_true rfl, zmt1 3 rfl rfl, by decide, by decide, by decide +kernel⟩, by decide, ⟨_, rfl, rfl⟩, zmt4 59 rfl rfl, zmt4 60 rfl rfl⟩
abbrev mX2_passWithin : MM := (yX2_passWithin, cX2_passWithin, 4, (some .int))
theorem in_X2_passWithin : zin mX2_passWithin := ⟨zmt4 66 rfl rfl, by decide⟩
theorem cv_X2_passWithin : zcV mX2_passWithin 1 1 := ⟨⟨in_X2_passWithin, Nat.le_of_ble_eq_true rfl, zmt1 3 rfl rfl, by decide, by decide, by decide +kernel⟩, by decide, ⟨_, rfl, rfl⟩, zmt4 65 rfl rfl, (zmp2 15 rfl : Cond.selects _ yX2_passWithin yX2_passWithin ∈ zTb)⟩
abbrev mX2_putOut : MM := (yX2_putOut, cX2_putOut, 3, none)
theorem in_X2_putOut : zin mX2_putOut := ⟨zmt4 25 rfl rfl, by decide⟩
theorem cv_X2_putOut : zcV mX2_putOut 1 2 := ⟨⟨in_X2_putOut, Nat.le_of_ble_eq_true rfl, zmt1 3 rfl rfl, by decide, by decide, by decide +kernel⟩, by decide, ⟨_, rfl, rfl⟩, zmt4 23 rfl rfl, zmt4 24 rfl rfl⟩
abbrev mX2_sparksToBurn : MM := (yX2_sparksToBurn, cX2_sparksToBurn, 2, (some .int))
theorem in_X2_sparksToBurn : zin mX2_sparksToBurn := ⟨zmt4 42 rfl rfl, by decide⟩
theorem cv_X2_sparksToBurn : zcV mX2_sparksToBurn 1 0 := ⟨⟨in_X2_sparksToBurn, Nat.le_of_ble_eq_true rfl, zmt1 3 rfl rfl, by decide, by decide, by decide +kernel⟩, by decide, ⟨_, rfl, rfl⟩, zmt4 40 rfl rfl, zmt4 41 rfl rfl⟩
abbrev mX2_sparksToNextOut : MM := (yX2_sparksToNextOut, cX2_sparksToNextOut, 4, (some .int))
theorem in_X2_sparksToNextOut : zin mX2_sparksToNextOut := ⟨zmt4 46 rfl rfl, by decide⟩
theorem cv_X2_sparksToNextOut : zcV mX2_sparksToNextOut 1 0 := ⟨⟨in_X2_sparksToNextOut, Nat.le_of_ble_eq_true rfl, zmt1 3 rfl rfl, by decide, by decide, by decide +kernel⟩, by decide, ⟨_, rfl, rfl⟩, zmt4 44 rfl rfl, zmt4 45 rfl rfl⟩
abbrev mX2_sparksToOut : MM := (yX2_sparksToOut, cX2_sparksToOut, 3, (some .int))
theorem in_X2_sparksToOut : zin mX2_sparksToOut := ⟨zmt4 50 rfl rfl, by decide⟩
theorem cv_X2_sparksToOut : zcV mX2_sparksToOut 1 1 := ⟨⟨in_X2_sparksToOut, Nat.le_of_ble_eq_true rfl, zmt1 3 rfl rfl, by decide, by decide, by decide +kernel⟩, by decide, ⟨_, rfl, rfl⟩, zmt4 48 rfl rfl, zmt4 49 rfl rfl⟩
abbrev mX2_touch : MM := (yX2_touch, cX2_touch, 4, none)
theorem in_X2_touch : zin mX2_touch := ⟨zmt4 13 rfl rfl, by decide⟩
theorem cv_X2_touch : zcV mX2_touch 1 3 := ⟨⟨in_X2_touch, Nat.le_of_ble_eq_true rfl, zmt1 3 rfl rfl, by decide, by decide, by decide +kernel⟩, by decide, ⟨_, rfl, rfl⟩, zmt4 11 rfl rfl, zmt4 12 rfl rfl⟩
abbrev mX2_writeDown : MM := (yX2_writeDown, cX2_writeDown, 4, none)
theorem in_X2_writeDown : zin mX2_writeDown := ⟨zmt4 17 rfl rfl, by decide⟩
theorem cv_X2_writeDown : zcV mX2_writeDown 1 3 := ⟨⟨in_X2_writeDown, Nat.le_of_ble_eq_true rfl, zmt1 3 rfl rfl, by decide, by decide, by decide +kernel⟩, by decide, ⟨_, rfl, rfl⟩, zmt4 16 rfl rfl, (zmp2 13 rfl : Cond.selects _ yX2_writeDown yX2_writeDown ∈ zTb)⟩
abbrev mX3_append : MM := (yX3_append, cX3_append, 3, none)
theorem in_X3_append : zin mX3_append := ⟨zmt2 153 rfl rfl, by decide⟩
theorem cv_X3_append : zcV mX3_append 2 1 := ⟨⟨in_X3_append, Nat.le_of_ble_eq_true rfl, zmt1 6 rfl rfl, by decide, by decide, by decide +kernel⟩, by decide, ⟨_, rfl, rfl⟩, zmt2 151 rfl rfl, zmt2 152 rfl rfl⟩
abbrev mX3_byteAt : MM := (yX3_byteAt, cX3_byteAt, 2, (some .int))
theorem in_X3_byteAt : zin mX3_byteAt := ⟨zmt2 177 rfl rfl, by decide⟩
theorem cv_X3_byteAt : zcV mX3_byteAt 2 1 := ⟨⟨in_X3_byteAt, Nat.le_of_ble_eq_true rfl, zmt1 6 rfl rfl, by decide, by decide, by decide +kernel⟩, by decide, ⟨_, rfl, rfl⟩, zmt2 176 rfl rfl, (zmp1 1 rfl : Cond.selects _ yX3_byteAt yX3_byteAt ∈ zTb)⟩
abbrev mX3_compares : MM := (yX3_compares, cX3_compares, 1, (some .boolean))
theorem in_X3_compares : zin mX3_compares := ⟨zmt3 135 rfl rfl, by decide⟩
theorem cv_X3_compares : zcS mX3_compares 1 := ⟨⟨in_X3_compares, Nat.le_of_ble_eq_true rfl, zmt1 6 rfl rfl, by decide, by decide, by decide +kernel⟩, zmt3 134 rfl rfl⟩
abbrev mX3_expect : MM := (yX3_expect, cX3_expect, 2, none)
theorem in_X3_expect : zin mX3_expect := ⟨zmt3 116 rfl rfl, by decide⟩
theorem cv_X3_expect : zcV mX3_expect 2 1 := ⟨⟨in_X3_expect, Nat.le_of_ble_eq_true rfl, zmt1 6 rfl rfl, by decide, by decide, by decide +kernel⟩, by decide, ⟨_, rfl, rfl⟩, zmt3 115 rfl rfl, (zmp1 14 rfl : Cond.selects _ yX3_expect yX3_expect ∈ zTb)⟩
abbrev mX3_fail : MM := (yX3_fail, cX3_fail, 2, none)
theorem in_X3_fail : zin mX3_fail := ⟨zmt3 77 rfl rfl, by decide⟩
theorem cv_X3_fail : zcV mX3_fail 2 1 := ⟨⟨in_X3_fail, Nat.le_of_ble_eq_true rfl, zmt1 6 rfl rfl, by decide, by decide, by decide +kernel⟩, by decide, ⟨_, rfl, rfl⟩, zmt3 76 rfl rfl, (zmp1 7 rfl : Cond.selects _ yX3_fail yX3_fail ∈ zTb)⟩
abbrev mX3_isDigit : MM := (yX3_isDigit, cX3_isDigit, 1, (some .boolean))
theorem in_X3_isDigit : zin mX3_isDigit := ⟨zmt3 0 rfl rfl, by decide⟩
theorem cv_X3_isDigit : zcS mX3_isDigit 1 := ⟨⟨in_X3_isDigit, Nat.le_of_ble_eq_true rfl, zmt1 6 rfl rfl, by decide, by decide, by decide +kernel⟩, zmt2 239 rfl rfl⟩
abbrev mX3_isLetter : MM := (yX3_isLetter, cX3_isLetter, 1, (some .boolean))
theorem in_X3_isLetter : zin mX3_isLetter := ⟨zmt2 180 rfl rfl, by decide⟩
theorem cv_X3_isLetter : zcS mX3_isLetter 1 := ⟨⟨in_X3_isLetter, Nat.le_of_ble_eq_true rfl, zmt1 6 rfl rfl, by decide, by decide, by decide +kernel⟩, zmt2 179 rfl rfl⟩
abbrev mX3_isName : MM := (yX3_isName, cX3_isName, 1, (some .boolean))
theorem in_X3_isName : zin mX3_isName := ⟨zmt3 104 rfl rfl, by decide⟩
theorem cv_X3_isName : zcS mX3_isName 1 := ⟨⟨in_X3_isName, Nat.le_of_ble_eq_true rfl, zmt1 6 rfl rfl, by decide, by decide, by decide +kernel⟩, zmt3 103 rfl rfl⟩
abbrev mX3_next : MM := (yX3_next, cX3_next, 2, none)
theorem in_X3_next : zin mX3_next := ⟨zmt2 173 rfl rfl, by decide⟩
theorem cv_X3_next : zcV mX3_next 2 0 := ⟨⟨in_X3_next, Nat.le_of_ble_eq_true rfl, zmt1 6 rfl rfl, by decide, by decide, by decide +kernel⟩, by decide, ⟨_, rfl, rfl⟩, zmt2 172 rfl rfl, (zmp1 0 rfl : Cond.selects _ yX3_next yX3_next ∈ zTb)⟩
abbrev mX3_nextNumber : MM := (yX3_nextNumber, cX3_nextNumber, 2, (some .int))
theorem in_X3_nextNumber : zin mX3_nextNumber := ⟨zmt3 4 rfl rfl, by decide⟩
theorem cv_X3_nextNumber : zcV mX3_nextNumber 2 0 := ⟨⟨in_X3_nextNumber, Nat.le_of_ble_eq_true rfl, zmt1 6 rfl rfl, by decide, by decide, by decide +kernel⟩, by decide, ⟨_, rfl, rfl⟩, zmt3 3 rfl rfl, (zmp1 4 rfl : Cond.selects _ yX3_nextNumber yX3_nextNumber ∈ zTb)⟩
abbrev mX3_nextSign : MM := (yX3_nextSign, cX3_nextSign, 2, (some .int))
theorem in_X3_nextSign : zin mX3_nextSign := ⟨zmt3 11 rfl rfl, by decide⟩
theorem cv_X3_nextSign : zcV mX3_nextSign 2 1 := ⟨⟨in_X3_nextSign, Nat.le_of_ble_eq_true rfl, zmt1 6 rfl rfl, by decide, by decide, by decide +kernel⟩, by decide, ⟨_, rfl, rfl⟩, zmt3 10 rfl rfl, (zmp1 5 rfl : Cond.selects _ yX3_nextSign yX3_nextSign ∈ zTb)⟩
abbrev mX3_nextWord : MM := (yX3_nextWord, cX3_nextWord, 4, (some .int))
theorem in_X3_nextWord : zin mX3_nextWord := ⟨zmt2 184 rfl rfl, by decide⟩
theorem cv_X3_nextWord : zcV mX3_nextWord 2 0 := ⟨⟨in_X3_nextWord, Nat.le_of_ble_eq_true rfl, zmt1 6 rfl rfl, by decide, by decide, by decide +kernel⟩, by decide, ⟨_, rfl, rfl⟩, zmt2 183 rfl rfl, (zmp1 2 rfl : Cond.selects _ yX3_nextWord yX3_nextWord ∈ zTb)⟩
abbrev mX3_opens : MM := (yX3_opens, cX3_opens, 1, (some .boolean))
theorem in_X3_opens : zin mX3_opens := ⟨zmt3 112 rfl rfl, by decide⟩
theorem cv_X3_opens : zcV mX3_opens 2 0 := ⟨⟨in_X3_opens, Nat.le_of_ble_eq_true rfl, zmt1 6 rfl rfl, by decide, by decide, by decide +kernel⟩, by decide, ⟨_, rfl, rfl⟩, zmt3 111 rfl rfl, (zmp1 13 rfl : Cond.selects _ yX3_opens yX3_opens ∈ zTb)⟩
abbrev mX3_readAct : MM := (yX3_readAct, cX3_readAct, 4, none)
theorem in_X3_readAct : zin mX3_readAct := ⟨zmt3 143 rfl rfl, by decide⟩
theorem cv_X3_readAct : zcV mX3_readAct 2 1 := ⟨⟨in_X3_readAct, Nat.le_of_ble_eq_true rfl, zmt1 6 rfl rfl, by decide, by decide, by decide +kernel⟩, by decide, ⟨_, rfl, rfl⟩, zmt3 142 rfl rfl, (zmp2 3 rfl : Cond.selects _ yX3_readAct yX3_readAct ∈ zTb)⟩
abbrev mX3_readAsk : MM := (yX3_readAsk, cX3_readAsk, 2, none)
theorem in_X3_readAsk : zin mX3_readAsk := ⟨zmt3 132 rfl rfl, by decide⟩
theorem cv_X3_readAsk : zcV mX3_readAsk 2 0 := ⟨⟨in_X3_readAsk, Nat.le_of_ble_eq_true rfl, zmt1 6 rfl rfl, by decide, by decide, by decide +kernel⟩, by decide, ⟨_, rfl, rfl⟩, zmt3 131 rfl rfl, (zmp2 2 rfl : Cond.selects _ yX3_readAsk yX3_readAsk ∈ zTb)⟩
abbrev mX3_readBoth : MM := (yX3_readBoth, cX3_readBoth, 2, none)
theorem in_X3_readBoth : zin mX3_readBoth := ⟨zmt3 128 rfl rfl, by decide⟩
theorem cv_X3_readBoth : zcV mX3_readBoth 2 0 := ⟨⟨in_X3_readBoth, Nat.le_of_ble_eq_true rfl, zmt1 6 rfl rfl, by decide, by decide, by decide +kernel⟩, by decide, ⟨_, rfl, rfl⟩, zmt3 127 rfl rfl, (zmp2 1 rfl : Cond.selects _ yX3_readBoth yX3_readBoth ∈ zTb)⟩
abbrev mX3_readClause : MM := (yX3_readClause, cX3_readClause, 4, none)
theorem in_X3_readClause : zin mX3_readClause := ⟨zmt3 73 rfl rfl, by decide⟩
theorem cv_X3_readClause : zcV mX3_readClause 2 1 := ⟨⟨in_X3_readClause, Nat.le_of_ble_eq_true rfl, zmt1 6 rfl rfl, by decide, by decide, by decide +kernel⟩, by decide, ⟨_, rfl, rfl⟩, zmt3 72 rfl rfl, (zmp1 6 rfl : Cond.selects _ yX3_readClause yX3_readClause ∈ zTb)⟩
abbrev mX3_readEither : MM := (yX3_readEither, cX3_readEither, 2, none)
theorem in_X3_readEither : zin mX3_readEither := ⟨zmt3 124 rfl rfl, by decide⟩
theorem cv_X3_readEither : zcV mX3_readEither 2 0 := ⟨⟨in_X3_readEither, Nat.le_of_ble_eq_true rfl, zmt1 6 rfl rfl, by decide, by decide, by decide +kernel⟩, by decide, ⟨_, rfl, rfl⟩, zmt3 123 rfl rfl, (zmp2 0 rfl : Cond.selects _ yX3_readEither yX3_readEither ∈ zTb)⟩
abbrev mX3_readIf : MM := (yX3_readIf, cX3_readIf, 1, none)
theorem in_X3_readIf : zin mX3_readIf := ⟨zmt3 120 rfl rfl, by decide⟩
theorem cv_X3_readIf : zcV mX3_readIf 2 0 := ⟨⟨in_X3_readIf, Nat.le_of_ble_eq_true rfl, zmt1 6 rfl rfl, by decide, by decide, by decide +kernel⟩, by decide, ⟨_, rfl, rfl⟩, zmt3 119 rfl rfl, (zmp1 15 rfl : Cond.selects _ yX3_readIf yX3_readIf ∈ zTb)⟩
abbrev mX3_readInto : MM := (yX3_readInto, cX3_readInto, 3, none)
theorem in_X3_readInto : zin mX3_readInto := ⟨zmt2 165 rfl rfl, by decide⟩
theorem cv_X3_readInto : zcV mX3_readInto 2 1 := ⟨⟨in_X3_readInto, Nat.le_of_ble_eq_true rfl, zmt1 6 rfl rfl, by decide, by decide, by decide +kernel⟩, by decide, ⟨_, rfl, rfl⟩, zmt2 163 rfl rfl, zmt2 164 rfl rfl⟩
abbrev mX3_readLaw : MM := (yX3_readLaw, cX3_readLaw, 2, none)
theorem in_X3_readLaw : zin mX3_readLaw := ⟨zmt3 85 rfl rfl, by decide⟩
theorem cv_X3_readLaw : zcV mX3_readLaw 2 1 := ⟨⟨in_X3_readLaw, Nat.le_of_ble_eq_true rfl, zmt1 6 rfl rfl, by decide, by decide, by decide +kernel⟩, by decide, ⟨_, rfl, rfl⟩, zmt3 84 rfl rfl, (zmp1 8 rfl : Cond.selects _ yX3_readLaw yX3_readLaw ∈ zTb)⟩
abbrev mX3_readNumber : MM := (yX3_readNumber, cX3_readNumber, 4, (some .int))
theorem in_X3_readNumber : zin mX3_readNumber := ⟨zmt3 147 rfl rfl, by decide⟩
theorem cv_X3_readNumber : zcV mX3_readNumber 2 2 := ⟨⟨in_X3_readNumber, Nat.le_of_ble_eq_true rfl, zmt1 6 rfl rfl, by decide, by decide, by decide +kernel⟩, by decide, ⟨_, rfl, rfl⟩, zmt3 146 rfl rfl, (zmp2 4 rfl : Cond.selects _ yX3_readNumber yX3_readNumber ∈ zTb)⟩
abbrev mX3_readOne : MM := (yX3_readOne, cX3_readOne, 1, none)
theorem in_X3_readOne : zin mX3_readOne := ⟨zmt3 97 rfl rfl, by decide⟩
theorem cv_X3_readOne : zcV mX3_readOne 2 0 := ⟨⟨in_X3_readOne, Nat.le_of_ble_eq_true rfl, zmt1 6 rfl rfl, by decide, by decide, by decide +kernel⟩, by decide, ⟨_, rfl, rfl⟩, zmt3 96 rfl rfl, (zmp1 11 rfl : Cond.selects _ yX3_readOne yX3_readOne ∈ zTb)⟩
abbrev mX3_readOpening : MM := (yX3_readOpening, cX3_readOpening, 2, none)
theorem in_X3_readOpening : zin mX3_readOpening := ⟨zmt3 108 rfl rfl, by decide⟩
theorem cv_X3_readOpening : zcV mX3_readOpening 2 1 := ⟨⟨in_X3_readOpening, Nat.le_of_ble_eq_true rfl, zmt1 6 rfl rfl, by decide, by decide, by decide +kernel⟩, by decide, ⟨_, rfl, rfl⟩, zmt3 107 rfl rfl, (zmp1 12 rfl : Cond.selects _ yX3_readOpening yX3_readOpening ∈ zTb)⟩
abbrev mX3_readProduct : MM := (yX3_readProduct, cX3_readProduct, 3, none)
theorem in_X3_readProduct : zin mX3_readProduct := ⟨zmt3 93 rfl rfl, by decide⟩
theorem cv_X3_readProduct : zcV mX3_readProduct 2 0 := ⟨⟨in_X3_readProduct, Nat.le_of_ble_eq_true rfl, zmt1 6 rfl rfl, by decide, by decide, by decide +kernel⟩, by decide, ⟨_, rfl, rfl⟩, zmt3 92 rfl rfl, (zmp1 10 rfl : Cond.selects _ yX3_readProduct yX3_readProduct ∈ zTb)⟩
abbrev mX3_readSum : MM := (yX3_readSum, cX3_readSum, 3, none)
theorem in_X3_readSum : zin mX3_readSum := ⟨zmt3 89 rfl rfl, by decide⟩
theorem cv_X3_readSum : zcV mX3_readSum 2 0 := ⟨⟨in_X3_readSum, Nat.le_of_ble_eq_true rfl, zmt1 6 rfl rfl, by decide, by decide, by decide +kernel⟩, by decide, ⟨_, rfl, rfl⟩, zmt3 88 rfl rfl, (zmp1 9 rfl : Cond.selects _ yX3_readSum yX3_readSum ∈ zTb)⟩
abbrev mX3_spells : MM := (yX3_spells, cX3_spells, 3, (some .boolean))
theorem in_X3_spells : zin mX3_spells := ⟨zmt2 237 rfl rfl, by decide⟩
theorem cv_X3_spells : zcV mX3_spells 2 1 := ⟨⟨in_X3_spells, Nat.le_of_ble_eq_true rfl, zmt1 6 rfl rfl, by decide, by decide, by decide +kernel⟩, by decide, ⟨_, rfl, rfl⟩, zmt2 236 rfl rfl, (zmp1 3 rfl : Cond.selects _ yX3_spells yX3_spells ∈ zTb)⟩
abbrev mX4_arrive : MM := (yX4_arrive, cX4_arrive, 4, (some .boolean))
theorem in_X4_arrive : zin mX4_arrive := ⟨zmt4 182 rfl rfl, by decide⟩
theorem cv_X4_arrive : zcV mX4_arrive 3 1 := ⟨⟨in_X4_arrive, Nat.le_of_ble_eq_true rfl, zmt1 8 rfl rfl, by decide, by decide, by decide +kernel⟩, by decide, ⟨_, rfl, rfl⟩, zmt4 181 rfl rfl, (zmp3 10 rfl : Cond.selects _ yX4_arrive yX4_arrive ∈ zTb)⟩
abbrev mX4_begin : MM := (yX4_begin, cX4_begin, 5, none)
theorem in_X4_begin : zin mX4_begin := ⟨zmt4 168 rfl rfl, by decide⟩
theorem cv_X4_begin : zcV mX4_begin 3 3 := ⟨⟨in_X4_begin, Nat.le_of_ble_eq_true rfl, zmt1 8 rfl rfl, by decide, by decide, by decide +kernel⟩, by decide, ⟨_, rfl, rfl⟩, zmt4 167 rfl rfl, (zmp3 7 rfl : Cond.selects _ yX4_begin yX4_begin ∈ zTb)⟩
abbrev mX4_burnOn : MM := (yX4_burnOn, cX4_burnOn, 8, (some .boolean))
theorem in_X4_burnOn : zin mX4_burnOn := ⟨zmt4 176 rfl rfl, by decide⟩
theorem cv_X4_burnOn : zcV mX4_burnOn 3 1 := ⟨⟨in_X4_burnOn, Nat.le_of_ble_eq_true rfl, zmt1 8 rfl rfl, by decide, by decide, by decide +kernel⟩, by decide, ⟨_, rfl, rfl⟩, zmt4 175 rfl rfl, (zmp3 9 rfl : Cond.selects _ yX4_burnOn yX4_burnOn ∈ zTb)⟩
abbrev mX4_chooseNext : MM := (yX4_chooseNext, cX4_chooseNext, 5, (some .boolean))
theorem in_X4_chooseNext : zin mX4_chooseNext := ⟨zmt4 186 rfl rfl, by decide⟩
theorem cv_X4_chooseNext : zcV mX4_chooseNext 3 1 := ⟨⟨in_X4_chooseNext, Nat.le_of_ble_eq_true rfl, zmt1 8 rfl rfl, by decide, by decide, by decide +kernel⟩, by decide, ⟨_, rfl, rfl⟩, zmt4 185 rfl rfl, (zmp3 11 rfl : Cond.selects _ yX4_chooseNext yX4_chooseNext ∈ zTb)⟩
abbrev mX4_countSpans : MM := (yX4_countSpans, cX4_countSpans, 4, (some .int))
theorem in_X4_countSpans : zin mX4_countSpans := ⟨zmt4 160 rfl rfl, by decide⟩
theorem cv_X4_countSpans : zcV mX4_countSpans 3 1 := ⟨⟨in_X4_countSpans, Nat.le_of_ble_eq_true rfl, zmt1 8 rfl rfl, by decide, by decide, by decide +kernel⟩, by decide, ⟨_, rfl, rfl⟩, zmt4 158 rfl rfl, zmt4 159 rfl rfl⟩
abbrev mX4_findRow : MM := (yX4_findRow, cX4_findRow, 4, (some .boolean))
theorem in_X4_findRow : zin mX4_findRow := ⟨zmt4 235 rfl rfl, by decide⟩
theorem cv_X4_findRow : zcV mX4_findRow 3 2 := ⟨⟨in_X4_findRow, Nat.le_of_ble_eq_true rfl, zmt1 8 rfl rfl, by decide, by decide, by decide +kernel⟩, by decide, ⟨_, rfl, rfl⟩, zmt4 233 rfl rfl, zmt4 234 rfl rfl⟩
abbrev mX4_forget : MM := (yX4_forget, cX4_forget, 3, none)
theorem in_X4_forget : zin mX4_forget := ⟨zmt2 141 rfl rfl, by decide⟩
theorem cv_X4_forget : zcV mX4_forget 3 1 := ⟨⟨in_X4_forget, Nat.le_of_ble_eq_true rfl, zmt1 8 rfl rfl, by decide, by decide, by decide +kernel⟩, by decide, ⟨_, rfl, rfl⟩, zmt2 139 rfl rfl, zmt2 140 rfl rfl⟩
abbrev mX4_gives : MM := (yX4_gives, cX4_gives, 3, (some .boolean))
theorem in_X4_gives : zin mX4_gives := ⟨zmt4 212 rfl rfl, by decide⟩
theorem cv_X4_gives : zcV mX4_gives 3 2 := ⟨⟨in_X4_gives, Nat.le_of_ble_eq_true rfl, zmt1 8 rfl rfl, by decide, by decide, by decide +kernel⟩, by decide, ⟨_, rfl, rfl⟩, zmt4 210 rfl rfl, zmt4 211 rfl rfl⟩
abbrev mX4_learn : MM := (yX4_learn, cX4_learn, 3, none)
theorem in_X4_learn : zin mX4_learn := ⟨zmt4 164 rfl rfl, by decide⟩
theorem cv_X4_learn : zcV mX4_learn 3 1 := ⟨⟨in_X4_learn, Nat.le_of_ble_eq_true rfl, zmt1 8 rfl rfl, by decide, by decide, by decide +kernel⟩, by decide, ⟨_, rfl, rfl⟩, zmt4 163 rfl rfl, (zmp3 6 rfl : Cond.selects _ yX4_learn yX4_learn ∈ zTb)⟩
abbrev mX4_litAt : MM := (yX4_litAt, cX4_litAt, 4, (some .int))
theorem in_X4_litAt : zin mX4_litAt := ⟨zmt5 0 rfl rfl, by decide⟩
theorem cv_X4_litAt : zcV mX4_litAt 3 1 := ⟨⟨in_X4_litAt, Nat.le_of_ble_eq_true rfl, zmt1 8 rfl rfl, by decide, by decide, by decide +kernel⟩, by decide, ⟨_, rfl, rfl⟩, zmt4 238 rfl rfl, zmt4 239 rfl rfl⟩
abbrev mX4_marked : MM := (yX4_marked, cX4_marked, 3, (some .boolean))
theorem in_X4_marked : zin mX4_marked := ⟨zmt4 204 rfl rfl, by decide⟩
theorem cv_X4_marked : zcV mX4_marked 3 2 := ⟨⟨in_X4_marked, Nat.le_of_ble_eq_true rfl, zmt1 8 rfl rfl, by decide, by decide, by decide +kernel⟩, by decide, ⟨_, rfl, rfl⟩, zmt4 203 rfl rfl, (zmp3 13 rfl : Cond.selects _ yX4_marked yX4_marked ∈ zTb)⟩
abbrev mX4_nearestTo : MM := (yX4_nearestTo, cX4_nearestTo, 5, (some .int))
theorem in_X4_nearestTo : zin mX4_nearestTo := ⟨zmt5 15 rfl rfl, by decide⟩
theorem cv_X4_nearestTo : zcV mX4_nearestTo 3 2 := ⟨⟨in_X4_nearestTo, Nat.le_of_ble_eq_true rfl, zmt1 8 rfl rfl, by decide, by decide, by decide +kernel⟩, by decide, ⟨_, rfl, rfl⟩, zmt5 13 rfl rfl, zmt5 14 rfl rfl⟩
abbrev mX4_nextMarked : MM := (yX4_nextMarked, cX4_nextMarked, 8, (some .int))
theorem in_X4_nextMarked : zin mX4_nextMarked := ⟨zmt5 19 rfl rfl, by decide⟩
theorem cv_X4_nextMarked : zcV mX4_nextMarked 3 3 := ⟨⟨in_X4_nextMarked, Nat.le_of_ble_eq_true rfl, zmt1 8 rfl rfl, by decide, by decide, by decide +kernel⟩, by decide, ⟨_, rfl, rfl⟩, zmt5 18 rfl rfl, (zmp3 14 rfl : Cond.selects _ yX4_nextMarked yX4_nextMarked ∈ zTb)⟩
abbrev mX4_spanInWord : MM := (yX4_spanInWord, cX4_spanInWord, 6, (some .int))
theorem in_X4_spanInWord : zin mX4_spanInWord := ⟨zmt4 200 rfl rfl, by decide⟩
theorem cv_X4_spanInWord : zcV mX4_spanInWord 3 3 := ⟨⟨in_X4_spanInWord, Nat.le_of_ble_eq_true rfl, zmt1 8 rfl rfl, by decide, by decide, by decide +kernel⟩, by decide, ⟨_, rfl, rfl⟩, zmt4 199 rfl rfl, (zmp3 12 rfl : Cond.selects _ yX4_spanInWord yX4_spanInWord ∈ zTb)⟩
abbrev mX4_spanNumber : MM := (yX4_spanNumber, cX4_spanNumber, 6, (some .int))
theorem in_X4_spanNumber : zin mX4_spanNumber := ⟨zmt4 196 rfl rfl, by decide⟩
theorem cv_X4_spanNumber : zcV mX4_spanNumber 3 2 := ⟨⟨in_X4_spanNumber, Nat.le_of_ble_eq_true rfl, zmt1 8 rfl rfl, by decide, by decide, by decide +kernel⟩, by decide, ⟨_, rfl, rfl⟩, zmt4 194 rfl rfl, zmt4 195 rfl rfl⟩
abbrev mX4_walk : MM := (yX4_walk, cX4_walk, 3, (some .boolean))
theorem in_X4_walk : zin mX4_walk := ⟨zmt4 172 rfl rfl, by decide⟩
theorem cv_X4_walk : zcV mX4_walk 3 1 := ⟨⟨in_X4_walk, Nat.le_of_ble_eq_true rfl, zmt1 8 rfl rfl, by decide, by decide, by decide +kernel⟩, by decide, ⟨_, rfl, rfl⟩, zmt4 171 rfl rfl, (zmp3 8 rfl : Cond.selects _ yX4_walk yX4_walk ∈ zTb)⟩
abbrev mX5_copy : MM := (yX5_copy, cX5_copy, 4, none)
theorem in_X5_copy : zin mX5_copy := ⟨zmt5 194 rfl rfl, by decide⟩
theorem cv_X5_copy : zcV mX5_copy 4 1 := ⟨⟨in_X5_copy, Nat.le_of_ble_eq_true rfl, zmt1 4 rfl rfl, by decide, by decide, by decide +kernel⟩, by decide, ⟨_, rfl, rfl⟩, zmt5 192 rfl rfl, zmt5 193 rfl rfl⟩
abbrev mX5_pop : MM := (yX5_pop, cX5_pop, 2, (some .boolean))
theorem in_X5_pop : zin mX5_pop := ⟨zmt4 114 rfl rfl, by decide⟩
theorem cv_X5_pop : zcV mX5_pop 4 1 := ⟨⟨in_X5_pop, Nat.le_of_ble_eq_true rfl, zmt1 4 rfl rfl, by decide, by decide, by decide +kernel⟩, by decide, ⟨_, rfl, rfl⟩, zmt4 112 rfl rfl, zmt4 113 rfl rfl⟩
abbrev mX5_push : MM := (yX5_push, cX5_push, 2, none)
theorem in_X5_push : zin mX5_push := ⟨zmt3 230 rfl rfl, by decide⟩
theorem cv_X5_push : zcV mX5_push 4 1 := ⟨⟨in_X5_push, Nat.le_of_ble_eq_true rfl, zmt1 4 rfl rfl, by decide, by decide, by decide +kernel⟩, by decide, ⟨_, rfl, rfl⟩, zmt3 228 rfl rfl, zmt3 229 rfl rfl⟩
abbrev mX6_copy : MM := (yX6_copy, cX6_copy, 2, none)
theorem in_X6_copy : zin mX6_copy := ⟨zmt5 189 rfl rfl, by decide⟩
theorem cv_X6_copy : zcV mX6_copy 5 1 := ⟨⟨in_X6_copy, Nat.le_of_ble_eq_true rfl, zmt1 2 rfl rfl, by decide, by decide, by decide +kernel⟩, by decide, ⟨_, rfl, rfl⟩, zmt5 187 rfl rfl, zmt5 188 rfl rfl⟩
abbrev mX6_priceOf : MM := (yX6_priceOf, cX6_priceOf, 4, (some .int))
theorem in_X6_priceOf : zin mX6_priceOf := ⟨zmt4 227 rfl rfl, by decide⟩
theorem cv_X6_priceOf : zcV mX6_priceOf 5 1 := ⟨⟨in_X6_priceOf, Nat.le_of_ble_eq_true rfl, zmt1 2 rfl rfl, by decide, by decide, by decide +kernel⟩, by decide, ⟨_, rfl, rfl⟩, zmt4 225 rfl rfl, zmt4 226 rfl rfl⟩
abbrev mX7_holds : MM := (yX7_holds, cX7_holds, 5, (some .boolean))
theorem in_X7_holds : zin mX7_holds := ⟨zmt3 213 rfl rfl, by decide⟩
theorem cv_X7_holds : zcS mX7_holds 3 := ⟨⟨in_X7_holds, Nat.le_of_ble_eq_true rfl, zmt1 7 rfl rfl, by decide, by decide, by decide +kernel⟩, zmt3 212 rfl rfl⟩
abbrev mX7_isOut : MM := (yX7_isOut, cX7_isOut, 3, (some .boolean))
theorem in_X7_isOut : zin mX7_isOut := ⟨zmt3 209 rfl rfl, by decide⟩
theorem cv_X7_isOut : zcV mX7_isOut 6 1 := ⟨⟨in_X7_isOut, Nat.le_of_ble_eq_true rfl, zmt1 7 rfl rfl, by decide, by decide, by decide +kernel⟩, by decide, ⟨_, rfl, rfl⟩, zmt3 208 rfl rfl, (zmp2 10 rfl : Cond.selects _ yX7_isOut yX7_isOut ∈ zTb)⟩
abbrev mX7_leaf : MM := (yX7_leaf, cX7_leaf, 2, (some .long))
theorem in_X7_leaf : zin mX7_leaf := ⟨zmt3 194 rfl rfl, by decide⟩
theorem cv_X7_leaf : zcV mX7_leaf 6 1 := ⟨⟨in_X7_leaf, Nat.le_of_ble_eq_true rfl, zmt1 7 rfl rfl, by decide, by decide, by decide +kernel⟩, by decide, ⟨_, rfl, rfl⟩, zmt3 193 rfl rfl, (zmp2 8 rfl : Cond.selects _ yX7_leaf yX7_leaf ∈ zTb)⟩
abbrev mX7_limited : MM := (yX7_limited, cX7_limited, 2, (some .int))
theorem in_X7_limited : zin mX7_limited := ⟨zmt3 216 rfl rfl, by decide⟩
theorem cv_X7_limited : zcS mX7_limited 1 := ⟨⟨in_X7_limited, Nat.le_of_ble_eq_true rfl, zmt1 7 rfl rfl, by decide, by decide, by decide +kernel⟩, zmt3 215 rfl rfl⟩
abbrev mX7_result : MM := (yX7_result, cX7_result, 8, (some .long))
theorem in_X7_result : zin mX7_result := ⟨zmt3 202 rfl rfl, by decide⟩
theorem cv_X7_result : zcV mX7_result 6 4 := ⟨⟨in_X7_result, Nat.le_of_ble_eq_true rfl, zmt1 7 rfl rfl, by decide, by decide, by decide +kernel⟩, by decide, ⟨_, rfl, rfl⟩, zmt3 201 rfl rfl, (zmp2 9 rfl : Cond.selects _ yX7_result yX7_result ∈ zTb)⟩
abbrev mX7_takes : MM := (yX7_takes, cX7_takes, 2, (some .int))
theorem in_X7_takes : zin mX7_takes := ⟨zmt3 190 rfl rfl, by decide⟩
theorem cv_X7_takes : zcS mX7_takes 1 := ⟨⟨in_X7_takes, Nat.le_of_ble_eq_true rfl, zmt1 7 rfl rfl, by decide, by decide, by decide +kernel⟩, zmt3 189 rfl rfl⟩
abbrev mX7_valueOf : MM := (yX7_valueOf, cX7_valueOf, 12, (some .int))
theorem in_X7_valueOf : zin mX7_valueOf := ⟨zmt3 187 rfl rfl, by decide⟩
theorem cv_X7_valueOf : zcV mX7_valueOf 6 4 := ⟨⟨in_X7_valueOf, Nat.le_of_ble_eq_true rfl, zmt1 7 rfl rfl, by decide, by decide, by decide +kernel⟩, by decide, ⟨_, rfl, rfl⟩, zmt3 185 rfl rfl, zmt3 186 rfl rfl⟩
abbrev mX8_bestTrial : MM := (yX8_bestTrial, cX8_bestTrial, 7, (some .int))
theorem in_X8_bestTrial : zin mX8_bestTrial := ⟨zmt5 132 rfl rfl, by decide⟩
theorem cv_X8_bestTrial : zcS mX8_bestTrial 2 := ⟨⟨in_X8_bestTrial, Nat.le_of_ble_eq_true rfl, zmt1 22 rfl rfl, by decide, by decide, by decide +kernel⟩, zmt5 131 rfl rfl⟩
abbrev mX8_countFailing : MM := (yX8_countFailing, cX8_countFailing, 4, (some .int))
theorem in_X8_countFailing : zin mX8_countFailing := ⟨zmt5 135 rfl rfl, by decide⟩
theorem cv_X8_countFailing : zcS mX8_countFailing 2 := ⟨⟨in_X8_countFailing, Nat.le_of_ble_eq_true rfl, zmt1 22 rfl rfl, by decide, by decide, by decide +kernel⟩, zmt5 134 rfl rfl⟩
abbrev mX8_fits : MM := (yX8_fits, cX8_fits, 5, (some .boolean))
theorem in_X8_fits : zin mX8_fits := ⟨zmt5 116 rfl rfl, by decide⟩
theorem cv_X8_fits : zcS mX8_fits 2 := ⟨⟨in_X8_fits, Nat.le_of_ble_eq_true rfl, zmt1 22 rfl rfl, by decide, by decide, by decide +kernel⟩, zmt5 115 rfl rfl⟩
abbrev mX8_inAll : MM := (yX8_inAll, cX8_inAll, 4, (some .int))
theorem in_X8_inAll : zin mX8_inAll := ⟨zmt5 119 rfl rfl, by decide⟩
theorem cv_X8_inAll : zcS mX8_inAll 2 := ⟨⟨in_X8_inAll, Nat.le_of_ble_eq_true rfl, zmt1 22 rfl rfl, by decide, by decide, by decide +kernel⟩, zmt5 118 rfl rfl⟩
abbrev mX8_inNone : MM := (yX8_inNone, cX8_inNone, 4, (some .int))
theorem in_X8_inNone : zin mX8_inNone := ⟨zmt5 122 rfl rfl, by decide⟩
theorem cv_X8_inNone : zcS mX8_inNone 2 := ⟨⟨in_X8_inNone, Nat.le_of_ble_eq_true rfl, zmt1 22 rfl rfl, by decide, by decide, by decide +kernel⟩, zmt5 121 rfl rfl⟩
abbrev mX8_lowest : MM := (yX8_lowest, cX8_lowest, 2, (some .int))
theorem in_X8_lowest : zin mX8_lowest := ⟨zmt5 125 rfl rfl, by decide⟩
theorem cv_X8_lowest : zcS mX8_lowest 1 := ⟨⟨in_X8_lowest, Nat.le_of_ble_eq_true rfl, zmt1 22 rfl rfl, by decide, by decide, by decide +kernel⟩, zmt5 124 rfl rfl⟩
abbrev mX9_addClause : MM := (yX9_addClause, cX9_addClause, 4, none)
theorem in_X9_addClause : zin mX9_addClause := ⟨zmt3 139 rfl rfl, by decide⟩
theorem cv_X9_addClause : zcV mX9_addClause 7 3 := ⟨⟨in_X9_addClause, Nat.le_of_ble_eq_true rfl, zmt1 10 rfl rfl, by decide, by decide, by decide +kernel⟩, by decide, ⟨_, rfl, rfl⟩, zmt3 137 rfl rfl, zmt3 138 rfl rfl⟩
abbrev mX9_addCode : MM := (yX9_addCode, cX9_addCode, 2, none)
theorem in_X9_addCode : zin mX9_addCode := ⟨zmt3 101 rfl rfl, by decide⟩
theorem cv_X9_addCode : zcV mX9_addCode 7 1 := ⟨⟨in_X9_addCode, Nat.le_of_ble_eq_true rfl, zmt1 10 rfl rfl, by decide, by decide, by decide +kernel⟩, by decide, ⟨_, rfl, rfl⟩, zmt3 99 rfl rfl, zmt3 100 rfl rfl⟩
abbrev mX9_clear : MM := (yX9_clear, cX9_clear, 2, none)
theorem in_X9_clear : zin mX9_clear := ⟨zmt2 169 rfl rfl, by decide⟩
theorem cv_X9_clear : zcV mX9_clear 7 0 := ⟨⟨in_X9_clear, Nat.le_of_ble_eq_true rfl, zmt1 10 rfl rfl, by decide, by decide, by decide +kernel⟩, by decide, ⟨_, rfl, rfl⟩, zmt2 167 rfl rfl, zmt2 168 rfl rfl⟩
abbrev mX9_rules : MM := (yX9_rules, cX9_rules, 2, (some .boolean))
theorem in_X9_rules : zin mX9_rules := ⟨zmt3 81 rfl rfl, by decide⟩
theorem cv_X9_rules : zcV mX9_rules 7 1 := ⟨⟨in_X9_rules, Nat.le_of_ble_eq_true rfl, zmt1 10 rfl rfl, by decide, by decide, by decide +kernel⟩, by decide, ⟨_, rfl, rfl⟩, zmt3 79 rfl rfl, zmt3 80 rfl rfl⟩
abbrev mX10_add : MM := (yX10_add, cX10_add, 2, (some .boolean))
theorem in_X10_add : zin mX10_add := ⟨zmt5 27 rfl rfl, by decide⟩
theorem cv_X10_add : zcV mX10_add 8 1 := ⟨⟨in_X10_add, Nat.le_of_ble_eq_true rfl, zmt1 5 rfl rfl, by decide, by decide, by decide +kernel⟩, by decide, ⟨_, rfl, rfl⟩, zmt5 25 rfl rfl, zmt5 26 rfl rfl⟩
abbrev mX10_copy : MM := (yX10_copy, cX10_copy, 3, none)
theorem in_X10_copy : zin mX10_copy := ⟨zmt5 199 rfl rfl, by decide⟩
theorem cv_X10_copy : zcV mX10_copy 8 1 := ⟨⟨in_X10_copy, Nat.le_of_ble_eq_true rfl, zmt1 5 rfl rfl, by decide, by decide, by decide +kernel⟩, by decide, ⟨_, rfl, rfl⟩, zmt5 197 rfl rfl, zmt5 198 rfl rfl⟩
abbrev mX12_about : MM := (yX12_about, cX12_about, 2, (some .int))
theorem in_X12_about : zin mX12_about := ⟨zmt8 211 rfl rfl, by decide⟩
theorem cv_X12_about : zcV mX12_about 10 1 := ⟨⟨in_X12_about, Nat.le_of_ble_eq_true rfl, zmt1 11 rfl rfl, by decide, by decide, by decide +kernel⟩, by decide, ⟨_, rfl, rfl⟩, zmt8 209 rfl rfl, zmt8 210 rfl rfl⟩
abbrev mX12_anew : MM := (yX12_anew, cX12_anew, 1, none)
theorem in_X12_anew : zin mX12_anew := ⟨zmt7 128 rfl rfl, by decide⟩
theorem cv_X12_anew : zcV mX12_anew 10 0 := ⟨⟨in_X12_anew, Nat.le_of_ble_eq_true rfl, zmt1 11 rfl rfl, by decide, by decide, by decide +kernel⟩, by decide, ⟨_, rfl, rfl⟩, zmt7 127 rfl rfl, (zmp7 1 rfl : Cond.selects _ yX12_anew yX12_anew ∈ zTb)⟩
abbrev mX12_areCords : MM := (yX12_areCords, cX12_areCords, 2, (some .boolean))
theorem in_X12_areCords : zin mX12_areCords := ⟨zmt8 27 rfl rfl, by decide⟩
theorem cv_X12_areCords : zcV mX12_areCords 10 1 := ⟨⟨in_X12_areCords, Nat.le_of_ble_eq_true rfl, zmt1 11 rfl rfl, by decide, by decide, by decide +kernel⟩, by decide, ⟨_, rfl, rfl⟩, zmt8 26 rfl rfl, (zmp8 0 rfl : Cond.selects _ yX12_areCords yX12_areCords ∈ zTb)⟩
abbrev mX12_areParts : MM := (yX12_areParts, cX12_areParts, 4, (some .boolean))
theorem in_X12_areParts : zin mX12_areParts := ⟨zmt8 118 rfl rfl, by decide⟩
theorem cv_X12_areParts : zcV mX12_areParts 10 1 := ⟨⟨in_X12_areParts, Nat.le_of_ble_eq_true rfl, zmt1 11 rfl rfl, by decide, by decide, by decide +kernel⟩, by decide, ⟨_, rfl, rfl⟩, zmt8 117 rfl rfl, (zmp8 13 rfl : Cond.selects _ yX12_areParts yX12_areParts ∈ zTb)⟩
abbrev mX12_arePassed : MM := (yX12_arePassed, cX12_arePassed, 3, (some .boolean))
theorem in_X12_arePassed : zin mX12_arePassed := ⟨zmt7 189 rfl rfl, by decide⟩
theorem cv_X12_arePassed : zcV mX12_arePassed 10 1 := ⟨⟨in_X12_arePassed, Nat.le_of_ble_eq_true rfl, zmt1 11 rfl rfl, by decide, by decide, by decide +kernel⟩, by decide, ⟨_, rfl, rfl⟩, zmt7 188 rfl rfl, (zmp7 11 rfl : Cond.selects _ yX12_arePassed yX12_arePassed ∈ zTb)⟩
abbrev mX12_back : MM := (yX12_back, cX12_back, 1, (some .int))
theorem in_X12_back : zin mX12_back := ⟨zmt8 207 rfl rfl, by decide⟩
theorem cv_X12_back : zcV mX12_back 10 0 := ⟨⟨in_X12_back, Nat.le_of_ble_eq_true rfl, zmt1 11 rfl rfl, by decide, by decide, by decide +kernel⟩, by decide, ⟨_, rfl, rfl⟩, zmt8 205 rfl rfl, zmt8 206 rfl rfl⟩
abbrev mX12_begin : MM := (yX12_begin, cX12_begin, 2, none)
theorem in_X12_begin : zin mX12_begin := ⟨zmt6 105 rfl rfl, by decide⟩
theorem cv_X12_begin : zcV mX12_begin 10 1 := ⟨⟨in_X12_begin, Nat.le_of_ble_eq_true rfl, zmt1 11 rfl rfl, by decide, by decide, by decide +kernel⟩, by decide, ⟨_, rfl, rfl⟩, zmt6 104 rfl rfl, (zmp4 7 rfl : Cond.selects _ yX12_begin yX12_begin ∈ zTb)⟩
abbrev mX12_beginOne : MM := (yX12_beginOne, cX12_beginOne, 2, (some .int))
theorem in_X12_beginOne : zin mX12_beginOne := ⟨zmt7 17 rfl rfl, by decide⟩
theorem cv_X12_beginOne : zcV mX12_beginOne 10 0 := ⟨⟨in_X12_beginOne, Nat.le_of_ble_eq_true rfl, zmt1 11 rfl rfl, by decide, by decide, by decide +kernel⟩, by decide, ⟨_, rfl, rfl⟩, zmt7 16 rfl rfl, (zmp6 0 rfl : Cond.selects _ yX12_beginOne yX12_beginOne ∈ zTb)⟩
abbrev mX12_behindOne : MM := (yX12_behindOne, cX12_behindOne, 4, (some .boolean))
theorem in_X12_behindOne : zin mX12_behindOne := ⟨zmt6 218 rfl rfl, by decide⟩
theorem cv_X12_behindOne : zcV mX12_behindOne 10 0 := ⟨⟨in_X12_behindOne, Nat.le_of_ble_eq_true rfl, zmt1 11 rfl rfl, by decide, by decide, by decide +kernel⟩, by decide, ⟨_, rfl, rfl⟩, zmt6 217 rfl rfl, (zmp5 7 rfl : Cond.selects _ yX12_behindOne yX12_behindOne ∈ zTb)⟩
abbrev mX12_bestOf : MM := (yX12_bestOf, cX12_bestOf, 7, (some .int))
theorem in_X12_bestOf : zin mX12_bestOf := ⟨zmt8 144 rfl rfl, by decide⟩
theorem cv_X12_bestOf : zcV mX12_bestOf 10 3 := ⟨⟨in_X12_bestOf, Nat.le_of_ble_eq_true rfl, zmt1 11 rfl rfl, by decide, by decide, by decide +kernel⟩, by decide, ⟨_, rfl, rfl⟩, zmt8 143 rfl rfl, (zmp9 0 rfl : Cond.selects _ yX12_bestOf yX12_bestOf ∈ zTb)⟩
abbrev mX12_between : MM := (yX12_between, cX12_between, 5, (some .int))
theorem in_X12_between : zin mX12_between := ⟨zmt8 86 rfl rfl, by decide⟩
theorem cv_X12_between : zcV mX12_between 10 3 := ⟨⟨in_X12_between, Nat.le_of_ble_eq_true rfl, zmt1 11 rfl rfl, by decide, by decide, by decide +kernel⟩, by decide, ⟨_, rfl, rfl⟩, zmt8 84 rfl rfl, zmt8 85 rfl rfl⟩
abbrev mX12_betweenOf : MM := (yX12_betweenOf, cX12_betweenOf, 1, (some .int))
theorem in_X12_betweenOf : zin mX12_betweenOf := ⟨zmt6 222 rfl rfl, by decide⟩
theorem cv_X12_betweenOf : zcV mX12_betweenOf 10 0 := ⟨⟨in_X12_betweenOf, Nat.le_of_ble_eq_true rfl, zmt1 11 rfl rfl, by decide, by decide, by decide +kernel⟩, by decide, ⟨_, rfl, rfl⟩, zmt6 221 rfl rfl, (zmp5 8 rfl : Cond.selects _ yX12_betweenOf yX12_betweenOf ∈ zTb)⟩
abbrev mX12_bits : MM := (yX12_bits, cX12_bits, 3, (some .int))
theorem in_X12_bits : zin mX12_bits := ⟨zmt7 75 rfl rfl, by decide⟩
theorem cv_X12_bits : zcS mX12_bits 1 := ⟨⟨in_X12_bits, Nat.le_of_ble_eq_true rfl, zmt1 11 rfl rfl, by decide, by decide, by decide +kernel⟩, zmt7 74 rfl rfl⟩
abbrev mX12_body : MM := (yX12_body, cX12_body, 3, (some .int))
theorem in_X12_body : zin mX12_body := ⟨zmt6 198 rfl rfl, by decide⟩
theorem cv_X12_body : zcV mX12_body 10 2 := ⟨⟨in_X12_body, Nat.le_of_ble_eq_true rfl, zmt1 11 rfl rfl, by decide, by decide, by decide +kernel⟩, by decide, ⟨_, rfl, rfl⟩, zmt6 197 rfl rfl, (zmp5 2 rfl : Cond.selects _ yX12_body yX12_body ∈ zTb)⟩
abbrev mX12_book : MM := (yX12_book, cX12_book, 3, (some .int))
theorem in_X12_book : zin mX12_book := ⟨zmt7 231 rfl rfl, by decide⟩
theorem cv_X12_book : zcV mX12_book 10 2 := ⟨⟨in_X12_book, Nat.le_of_ble_eq_true rfl, zmt1 11 rfl rfl, by decide, by decide, by decide +kernel⟩, by decide, ⟨_, rfl, rfl⟩, zmt7 229 rfl rfl, zmt7 230 rfl rfl⟩
abbrev mX12_bundle : MM := (yX12_bundle, cX12_bundle, 3, (some .int))
theorem in_X12_bundle : zin mX12_bundle := ⟨zmt8 110 rfl rfl, by decide⟩
theorem cv_X12_bundle : zcV mX12_bundle 10 1 := ⟨⟨in_X12_bundle, Nat.le_of_ble_eq_true rfl, zmt1 11 rfl rfl, by decide, by decide, by decide +kernel⟩, by decide, ⟨_, rfl, rfl⟩, zmt8 108 rfl rfl, zmt8 109 rfl rfl⟩
abbrev mX12_burn : MM := (yX12_burn, cX12_burn, 2, (some .int))
theorem in_X12_burn : zin mX12_burn := ⟨zmt7 159 rfl rfl, by decide⟩
theorem cv_X12_burn : zcV mX12_burn 10 0 := ⟨⟨in_X12_burn, Nat.le_of_ble_eq_true rfl, zmt1 11 rfl rfl, by decide, by decide, by decide +kernel⟩, by decide, ⟨_, rfl, rfl⟩, zmt7 157 rfl rfl, zmt7 158 rfl rfl⟩
abbrev mX12_burning : MM := (yX12_burning, cX12_burning, 3, (some .int))
theorem in_X12_burning : zin mX12_burning := ⟨zmt8 7 rfl rfl, by decide⟩
theorem cv_X12_burning : zcV mX12_burning 10 0 := ⟨⟨in_X12_burning, Nat.le_of_ble_eq_true rfl, zmt1 11 rfl rfl, by decide, by decide, by decide +kernel⟩, by decide, ⟨_, rfl, rfl⟩, zmt8 5 rfl rfl, zmt8 6 rfl rfl⟩
abbrev mX12_by : MM := (yX12_by, cX12_by, 2, (some .boolean))
theorem in_X12_by : zin mX12_by := ⟨zmt7 37 rfl rfl, by decide⟩
theorem cv_X12_by : zcV mX12_by 10 1 := ⟨⟨in_X12_by, Nat.le_of_ble_eq_true rfl, zmt1 11 rfl rfl, by decide, by decide, by decide +kernel⟩, by decide, ⟨_, rfl, rfl⟩, zmt7 35 rfl rfl, zmt7 36 rfl rfl⟩
abbrev mX12_byteAt : MM := (yX12_byteAt, cX12_byteAt, 2, (some .int))
theorem in_X12_byteAt : zin mX12_byteAt := ⟨zmt6 153 rfl rfl, by decide⟩
theorem cv_X12_byteAt : zcV mX12_byteAt 10 1 := ⟨⟨in_X12_byteAt, Nat.le_of_ble_eq_true rfl, zmt1 11 rfl rfl, by decide, by decide, by decide +kernel⟩, by decide, ⟨_, rfl, rfl⟩, zmt6 152 rfl rfl, (zmp4 14 rfl : Cond.selects _ yX12_byteAt yX12_byteAt ∈ zTb)⟩
abbrev mX12_can : MM := (yX12_can, cX12_can, 3, (some .boolean))
theorem in_X12_can : zin mX12_can := ⟨zmt8 58 rfl rfl, by decide⟩
theorem cv_X12_can : zcV mX12_can 10 2 := ⟨⟨in_X12_can, Nat.le_of_ble_eq_true rfl, zmt1 11 rfl rfl, by decide, by decide, by decide +kernel⟩, by decide, ⟨_, rfl, rfl⟩, zmt8 56 rfl rfl, zmt8 57 rfl rfl⟩
abbrev mX12_canBurn : MM := (yX12_canBurn, cX12_canBurn, 1, (some .boolean))
theorem in_X12_canBurn : zin mX12_canBurn := ⟨zmt7 163 rfl rfl, by decide⟩
theorem cv_X12_canBurn : zcV mX12_canBurn 10 0 := ⟨⟨in_X12_canBurn, Nat.le_of_ble_eq_true rfl, zmt1 11 rfl rfl, by decide, by decide, by decide +kernel⟩, by decide, ⟨_, rfl, rfl⟩, zmt7 162 rfl rfl, (zmp7 6 rfl : Cond.selects _ yX12_canBurn yX12_canBurn ∈ zTb)⟩
abbrev mX12_canLight : MM := (yX12_canLight, cX12_canLight, 3, (some .boolean))
theorem in_X12_canLight : zin mX12_canLight := ⟨zmt7 49 rfl rfl, by decide⟩
theorem cv_X12_canLight : zcV mX12_canLight 10 2 := ⟨⟨in_X12_canLight, Nat.le_of_ble_eq_true rfl, zmt1 11 rfl rfl, by decide, by decide, by decide +kernel⟩, by decide, ⟨_, rfl, rfl⟩, zmt7 48 rfl rfl, (zmp6 4 rfl : Cond.selects _ yX12_canLight yX12_canLight ∈ zTb)⟩
abbrev mX12_canPass : MM := (yX12_canPass, cX12_canPass, 1, (some .boolean))
theorem in_X12_canPass : zin mX12_canPass := ⟨zmt7 193 rfl rfl, by decide⟩
theorem cv_X12_canPass : zcV mX12_canPass 10 0 := ⟨⟨in_X12_canPass, Nat.le_of_ble_eq_true rfl, zmt1 11 rfl rfl, by decide, by decide, by decide +kernel⟩, by decide, ⟨_, rfl, rfl⟩, zmt7 192 rfl rfl, (zmp7 12 rfl : Cond.selects _ yX12_canPass yX12_canPass ∈ zTb)⟩
abbrev mX12_canRenew : MM := (yX12_canRenew, cX12_canRenew, 2, (some .boolean))
theorem in_X12_canRenew : zin mX12_canRenew := ⟨zmt7 155 rfl rfl, by decide⟩
theorem cv_X12_canRenew : zcV mX12_canRenew 10 1 := ⟨⟨in_X12_canRenew, Nat.le_of_ble_eq_true rfl, zmt1 11 rfl rfl, by decide, by decide, by decide +kernel⟩, by decide, ⟨_, rfl, rfl⟩, zmt7 154 rfl rfl, (zmp7 5 rfl : Cond.selects _ yX12_canRenew yX12_canRenew ∈ zTb)⟩
abbrev mX12_canSnuff : MM := (yX12_canSnuff, cX12_canSnuff, 3, (some .boolean))
theorem in_X12_canSnuff : zin mX12_canSnuff := ⟨zmt7 143 rfl rfl, by decide⟩
theorem cv_X12_canSnuff : zcV mX12_canSnuff 10 2 := ⟨⟨in_X12_canSnuff, Nat.le_of_ble_eq_true rfl, zmt1 11 rfl rfl, by decide, by decide, by decide +kernel⟩, by decide, ⟨_, rfl, rfl⟩, zmt7 142 rfl rfl, (zmp7 3 rfl : Cond.selects _ yX12_canSnuff yX12_canSnuff ∈ zTb)⟩
abbrev mX12_cheapest : MM := (yX12_cheapest, cX12_cheapest, 4, (some .int))
theorem in_X12_cheapest : zin mX12_cheapest := ⟨zmt8 94 rfl rfl, by decide⟩
theorem cv_X12_cheapest : zcV mX12_cheapest 10 1 := ⟨⟨in_X12_cheapest, Nat.le_of_ble_eq_true rfl, zmt1 11 rfl rfl, by decide, by decide, by decide +kernel⟩, by decide, ⟨_, rfl, rfl⟩, zmt8 92 rfl rfl, zmt8 93 rfl rfl⟩
abbrev mX12_clause : MM := (yX12_clause, cX12_clause, 5, (some .int))
theorem in_X12_clause : zin mX12_clause := ⟨zmt6 168 rfl rfl, by decide⟩
theorem cv_X12_clause : zcV mX12_clause 10 0 := ⟨⟨in_X12_clause, Nat.le_of_ble_eq_true rfl, zmt1 11 rfl rfl, by decide, by decide, by decide +kernel⟩, by decide, ⟨_, rfl, rfl⟩, zmt6 167 rfl rfl, (zmp4 15 rfl : Cond.selects _ yX12_clause yX12_clause ∈ zTb)⟩
abbrev mX12_clip : MM := (yX12_clip, cX12_clip, 2, (some .long))
theorem in_X12_clip : zin mX12_clip := ⟨zmt7 101 rfl rfl, by decide⟩
theorem cv_X12_clip : zcS mX12_clip 1 := ⟨⟨in_X12_clip, Nat.le_of_ble_eq_true rfl, zmt1 11 rfl rfl, by decide, by decide, by decide +kernel⟩, zmt7 100 rfl rfl⟩
abbrev mX12_compareOf : MM := (yX12_compareOf, cX12_compareOf, 1, (some .int))
theorem in_X12_compareOf : zin mX12_compareOf := ⟨zmt7 1 rfl rfl, by decide⟩
theorem cv_X12_compareOf : zcV mX12_compareOf 10 0 := ⟨⟨in_X12_compareOf, Nat.le_of_ble_eq_true rfl, zmt1 11 rfl rfl, by decide, by decide, by decide +kernel⟩, by decide, ⟨_, rfl, rfl⟩, zmt7 0 rfl rfl, (zmp5 12 rfl : Cond.selects _ yX12_compareOf yX12_compareOf ∈ zTb)⟩
abbrev mX12_copy : MM := (yX12_copy, cX12_copy, 3, none)
theorem in_X12_copy : zin mX12_copy := ⟨zmt5 217 rfl rfl, by decide⟩
theorem cv_X12_copy : zcS mX12_copy 2 := ⟨⟨in_X12_copy, Nat.le_of_ble_eq_true rfl, zmt1 11 rfl rfl, by decide, by decide, by decide +kernel⟩, zmt5 216 rfl rfl⟩
abbrev mX12_cord : MM := (yX12_cord, cX12_cord, 4, (some .int))
theorem in_X12_cord : zin mX12_cord := ⟨zmt6 98 rfl rfl, by decide⟩
theorem cv_X12_cord : zcV mX12_cord 10 2 := ⟨⟨in_X12_cord, Nat.le_of_ble_eq_true rfl, zmt1 11 rfl rfl, by decide, by decide, by decide +kernel⟩, by decide, ⟨_, rfl, rfl⟩, zmt6 96 rfl rfl, zmt6 97 rfl rfl⟩
abbrev mX12_cordClause : MM := (yX12_cordClause, cX12_cordClause, 3, (some .int))
theorem in_X12_cordClause : zin mX12_cordClause := ⟨zmt6 202 rfl rfl, by decide⟩
theorem cv_X12_cordClause : zcV mX12_cordClause 10 1 := ⟨⟨in_X12_cordClause, Nat.le_of_ble_eq_true rfl, zmt1 11 rfl rfl, by decide, by decide, by decide +kernel⟩, by decide, ⟨_, rfl, rfl⟩, zmt6 201 rfl rfl, (zmp5 3 rfl : Cond.selects _ yX12_cordClause yX12_cordClause ∈ zTb)⟩
abbrev mX12_crews : MM := (yX12_crews, cX12_crews, 3, (some .int))
theorem in_X12_crews : zin mX12_crews := ⟨zmt8 130 rfl rfl, by decide⟩
theorem cv_X12_crews : zcV mX12_crews 10 2 := ⟨⟨in_X12_crews, Nat.le_of_ble_eq_true rfl, zmt1 11 rfl rfl, by decide, by decide, by decide +kernel⟩, by decide, ⟨_, rfl, rfl⟩, zmt8 128 rfl rfl, zmt8 129 rfl rfl⟩
abbrev mX12_cut : MM := (yX12_cut, cX12_cut, 4, (some .int))
theorem in_X12_cut : zin mX12_cut := ⟨zmt7 112 rfl rfl, by decide⟩
theorem cv_X12_cut : zcS mX12_cut 3 := ⟨⟨in_X12_cut, Nat.le_of_ble_eq_true rfl, zmt1 11 rfl rfl, by decide, by decide, by decide +kernel⟩, zmt7 111 rfl rfl⟩
abbrev mX12_dead : MM := (yX12_dead, cX12_dead, 3, (some .int))
theorem in_X12_dead : zin mX12_dead := ⟨zmt8 11 rfl rfl, by decide⟩
theorem cv_X12_dead : zcV mX12_dead 10 0 := ⟨⟨in_X12_dead, Nat.le_of_ble_eq_true rfl, zmt1 11 rfl rfl, by decide, by decide, by decide +kernel⟩, by decide, ⟨_, rfl, rfl⟩, zmt8 9 rfl rfl, zmt8 10 rfl rfl⟩
abbrev mX12_digitOf : MM := (yX12_digitOf, cX12_digitOf, 2, (some .int))
theorem in_X12_digitOf : zin mX12_digitOf := ⟨zmt8 42 rfl rfl, by decide⟩
theorem cv_X12_digitOf : zcS mX12_digitOf 2 := ⟨⟨in_X12_digitOf, Nat.le_of_ble_eq_true rfl, zmt1 11 rfl rfl, by decide, by decide, by decide +kernel⟩, zmt8 41 rfl rfl⟩
abbrev mX12_divisor : MM := (yX12_divisor, cX12_divisor, 10, (some .long))
theorem in_X12_divisor : zin mX12_divisor := ⟨zmt8 187 rfl rfl, by decide⟩
theorem cv_X12_divisor : zcS mX12_divisor 2 := ⟨⟨in_X12_divisor, Nat.le_of_ble_eq_true rfl, zmt1 11 rfl rfl, by decide, by decide, by decide +kernel⟩, zmt8 186 rfl rfl⟩
abbrev mX12_emit : MM := (yX12_emit, cX12_emit, 3, none)
theorem in_X12_emit : zin mX12_emit := ⟨zmt7 9 rfl rfl, by decide⟩
theorem cv_X12_emit : zcV mX12_emit 10 2 := ⟨⟨in_X12_emit, Nat.le_of_ble_eq_true rfl, zmt1 11 rfl rfl, by decide, by decide, by decide +kernel⟩, by decide, ⟨_, rfl, rfl⟩, zmt7 8 rfl rfl, (zmp5 14 rfl : Cond.selects _ yX12_emit yX12_emit ∈ zTb)⟩
abbrev mX12_end : MM := (yX12_end, cX12_end, 2, (some .int))
theorem in_X12_end : zin mX12_end := ⟨zmt6 137 rfl rfl, by decide⟩
theorem cv_X12_end : zcV mX12_end 10 1 := ⟨⟨in_X12_end, Nat.le_of_ble_eq_true rfl, zmt1 11 rfl rfl, by decide, by decide, by decide +kernel⟩, by decide, ⟨_, rfl, rfl⟩, zmt6 135 rfl rfl, zmt6 136 rfl rfl⟩
abbrev mX12_endsNow : MM := (yX12_endsNow, cX12_endsNow, 3, (some .int))
theorem in_X12_endsNow : zin mX12_endsNow := ⟨zmt7 72 rfl rfl, by decide⟩
theorem cv_X12_endsNow : zcV mX12_endsNow 10 0 := ⟨⟨in_X12_endsNow, Nat.le_of_ble_eq_true rfl, zmt1 11 rfl rfl, by decide, by decide, by decide +kernel⟩, by decide, ⟨_, rfl, rfl⟩, zmt7 71 rfl rfl, (zmp6 9 rfl : Cond.selects _ yX12_endsNow yX12_endsNow ∈ zTb)⟩
abbrev mX12_entry : MM := (yX12_entry, cX12_entry, 4, (some .int))
theorem in_X12_entry : zin mX12_entry := ⟨zmt7 235 rfl rfl, by decide⟩
theorem cv_X12_entry : zcV mX12_entry 10 2 := ⟨⟨in_X12_entry, Nat.le_of_ble_eq_true rfl, zmt1 11 rfl rfl, by decide, by decide, by decide +kernel⟩, by decide, ⟨_, rfl, rfl⟩, zmt7 234 rfl rfl, (zmp7 15 rfl : Cond.selects _ yX12_entry yX12_entry ∈ zTb)⟩
abbrev mX12_failsOf : MM := (yX12_failsOf, cX12_failsOf, 3, (some .int))
theorem in_X12_failsOf : zin mX12_failsOf := ⟨zmt7 124 rfl rfl, by decide⟩
theorem cv_X12_failsOf : zcV mX12_failsOf 10 2 := ⟨⟨in_X12_failsOf, Nat.le_of_ble_eq_true rfl, zmt1 11 rfl rfl, by decide, by decide, by decide +kernel⟩, by decide, ⟨_, rfl, rfl⟩, zmt7 123 rfl rfl, (zmp7 0 rfl : Cond.selects _ yX12_failsOf yX12_failsOf ∈ zTb)⟩
abbrev mX12_fault : MM := (yX12_fault, cX12_fault, 2, (some .int))
theorem in_X12_fault : zin mX12_fault := ⟨zmt7 33 rfl rfl, by decide⟩
theorem cv_X12_fault : zcV mX12_fault 10 1 := ⟨⟨in_X12_fault, Nat.le_of_ble_eq_true rfl, zmt1 11 rfl rfl, by decide, by decide, by decide +kernel⟩, by decide, ⟨_, rfl, rfl⟩, zmt7 31 rfl rfl, zmt7 32 rfl rfl⟩
abbrev mX12_feed : MM := (yX12_feed, cX12_feed, 6, (some .int))
theorem in_X12_feed : zin mX12_feed := ⟨zmt6 129 rfl rfl, by decide⟩
theorem cv_X12_feed : zcV mX12_feed 10 5 := ⟨⟨in_X12_feed, Nat.le_of_ble_eq_true rfl, zmt1 11 rfl rfl, by decide, by decide, by decide +kernel⟩, by decide, ⟨_, rfl, rfl⟩, zmt6 127 rfl rfl, zmt6 128 rfl rfl⟩
abbrev mX12_fewest : MM := (yX12_fewest, cX12_fewest, 4, (some .int))
theorem in_X12_fewest : zin mX12_fewest := ⟨zmt8 90 rfl rfl, by decide⟩
theorem cv_X12_fewest : zcV mX12_fewest 10 1 := ⟨⟨in_X12_fewest, Nat.le_of_ble_eq_true rfl, zmt1 11 rfl rfl, by decide, by decide, by decide +kernel⟩, by decide, ⟨_, rfl, rfl⟩, zmt8 88 rfl rfl, zmt8 89 rfl rfl⟩
abbrev mX12_figure : MM := (yX12_figure, cX12_figure, 4, (some .int))
theorem in_X12_figure : zin mX12_figure := ⟨zmt6 206 rfl rfl, by decide⟩
theorem cv_X12_figure : zcV mX12_figure 10 3 := ⟨⟨in_X12_figure, Nat.le_of_ble_eq_true rfl, zmt1 11 rfl rfl, by decide, by decide, by decide +kernel⟩, by decide, ⟨_, rfl, rfl⟩, zmt6 205 rfl rfl, (zmp5 4 rfl : Cond.selects _ yX12_figure yX12_figure ∈ zTb)⟩
abbrev mX12_foretold : MM := (yX12_foretold, cX12_foretold, 5, (some .int))
theorem in_X12_foretold : zin mX12_foretold := ⟨zmt8 15 rfl rfl, by decide⟩
theorem cv_X12_foretold : zcV mX12_foretold 10 2 := ⟨⟨in_X12_foretold, Nat.le_of_ble_eq_true rfl, zmt1 11 rfl rfl, by decide, by decide, by decide +kernel⟩, by decide, ⟨_, rfl, rfl⟩, zmt8 13 rfl rfl, zmt8 14 rfl rfl⟩
abbrev mX12_forget : MM := (yX12_forget, cX12_forget, 2, none)
theorem in_X12_forget : zin mX12_forget := ⟨zmt5 221 rfl rfl, by decide⟩
theorem cv_X12_forget : zcV mX12_forget 10 0 := ⟨⟨in_X12_forget, Nat.le_of_ble_eq_true rfl, zmt1 11 rfl rfl, by decide, by decide, by decide +kernel⟩, by decide, ⟨_, rfl, rfl⟩, zmt5 220 rfl rfl, (zmp4 6 rfl : Cond.selects _ yX12_forget yX12_forget ∈ zTb)⟩
abbrev mX12_four : MM := (yX12_four, cX12_four, 3, none)
theorem in_X12_four : zin mX12_four := ⟨zmt6 133 rfl rfl, by decide⟩
theorem cv_X12_four : zcV mX12_four 10 1 := ⟨⟨in_X12_four, Nat.le_of_ble_eq_true rfl, zmt1 11 rfl rfl, by decide, by decide, by decide +kernel⟩, by decide, ⟨_, rfl, rfl⟩, zmt6 132 rfl rfl, (zmp4 11 rfl : Cond.selects _ yX12_four yX12_four ∈ zTb)⟩
abbrev mX12_full : MM := (yX12_full, cX12_full, 2, (some .int))
theorem in_X12_full : zin mX12_full := ⟨zmt6 109 rfl rfl, by decide⟩
theorem cv_X12_full : zcV mX12_full 10 1 := ⟨⟨in_X12_full, Nat.le_of_ble_eq_true rfl, zmt1 11 rfl rfl, by decide, by decide, by decide +kernel⟩, by decide, ⟨_, rfl, rfl⟩, zmt6 108 rfl rfl, (zmp4 8 rfl : Cond.selects _ yX12_full yX12_full ∈ zTb)⟩
abbrev mX12_get : MM := (yX12_get, cX12_get, 3, (some .int))
theorem in_X12_get : zin mX12_get := ⟨zmt7 53 rfl rfl, by decide⟩
theorem cv_X12_get : zcV mX12_get 10 2 := ⟨⟨in_X12_get, Nat.le_of_ble_eq_true rfl, zmt1 11 rfl rfl, by decide, by decide, by decide +kernel⟩, by decide, ⟨_, rfl, rfl⟩, zmt7 52 rfl rfl, (zmp6 5 rfl : Cond.selects _ yX12_get yX12_get ∈ zTb)⟩
abbrev mX12_hands : MM := (yX12_hands, cX12_hands, 2, (some .boolean))
theorem in_X12_hands : zin mX12_hands := ⟨zmt6 117 rfl rfl, by decide⟩
theorem cv_X12_hands : zcV mX12_hands 10 1 := ⟨⟨in_X12_hands, Nat.le_of_ble_eq_true rfl, zmt1 11 rfl rfl, by decide, by decide, by decide +kernel⟩, by decide, ⟨_, rfl, rfl⟩, zmt6 115 rfl rfl, zmt6 116 rfl rfl⟩
abbrev mX12_happens : MM := (yX12_happens, cX12_happens, 4, none)
theorem in_X12_happens : zin mX12_happens := ⟨zmt7 215 rfl rfl, by decide⟩
theorem cv_X12_happens : zcV mX12_happens 10 1 := ⟨⟨in_X12_happens, Nat.le_of_ble_eq_true rfl, zmt1 11 rfl rfl, by decide, by decide, by decide +kernel⟩, by decide, ⟨_, rfl, rfl⟩, zmt7 214 rfl rfl, (zmp7 14 rfl : Cond.selects _ yX12_happens yX12_happens ∈ zTb)⟩
abbrev mX12_has : MM := (yX12_has, cX12_has, 2, (some .boolean))
theorem in_X12_has : zin mX12_has := ⟨zmt6 194 rfl rfl, by decide⟩
theorem cv_X12_has : zcS mX12_has 2 := ⟨⟨in_X12_has, Nat.le_of_ble_eq_true rfl, zmt1 11 rfl rfl, by decide, by decide, by decide +kernel⟩, zmt6 193 rfl rfl⟩
abbrev mX12_heldBy : MM := (yX12_heldBy, cX12_heldBy, 4, (some .int))
theorem in_X12_heldBy : zin mX12_heldBy := ⟨zmt8 140 rfl rfl, by decide⟩
theorem cv_X12_heldBy : zcS mX12_heldBy 2 := ⟨⟨in_X12_heldBy, Nat.le_of_ble_eq_true rfl, zmt1 11 rfl rfl, by decide, by decide, by decide +kernel⟩, zmt8 139 rfl rfl⟩
abbrev mX12_image : MM := (yX12_image, cX12_image, 1, (some .int))
theorem in_X12_image : zin mX12_image := ⟨zmt8 203 rfl rfl, by decide⟩
theorem cv_X12_image : zcV mX12_image 10 0 := ⟨⟨in_X12_image, Nat.le_of_ble_eq_true rfl, zmt1 11 rfl rfl, by decide, by decide, by decide +kernel⟩, by decide, ⟨_, rfl, rfl⟩, zmt8 201 rfl rfl, zmt8 202 rfl rfl⟩
abbrev mX12_is : MM := (yX12_is, cX12_is, 2, (some .int))
theorem in_X12_is : zin mX12_is := ⟨zmt7 227 rfl rfl, by decide⟩
theorem cv_X12_is : zcV mX12_is 10 1 := ⟨⟨in_X12_is, Nat.le_of_ble_eq_true rfl, zmt1 11 rfl rfl, by decide, by decide, by decide +kernel⟩, by decide, ⟨_, rfl, rfl⟩, zmt7 225 rfl rfl, zmt7 226 rfl rfl⟩
abbrev mX12_isAskAhead : MM := (yX12_isAskAhead, cX12_isAskAhead, 1, (some .boolean))
theorem in_X12_isAskAhead : zin mX12_isAskAhead := ⟨zmt7 29 rfl rfl, by decide⟩
theorem cv_X12_isAskAhead : zcV mX12_isAskAhead 10 0 := ⟨⟨in_X12_isAskAhead, Nat.le_of_ble_eq_true rfl, zmt1 11 rfl rfl, by decide, by decide, by decide +kernel⟩, by decide, ⟨_, rfl, rfl⟩, zmt7 28 rfl rfl, (zmp6 3 rfl : Cond.selects _ yX12_isAskAhead yX12_isAskAhead ∈ zTb)⟩
abbrev mX12_isAsked : MM := (yX12_isAsked, cX12_isAsked, 5, (some .boolean))
theorem in_X12_isAsked : zin mX12_isAsked := ⟨zmt7 106 rfl rfl, by decide⟩
theorem cv_X12_isAsked : zcS mX12_isAsked 3 := ⟨⟨in_X12_isAsked, Nat.le_of_ble_eq_true rfl, zmt1 11 rfl rfl, by decide, by decide, by decide +kernel⟩, zmt7 105 rfl rfl⟩
abbrev mX12_isCheaper : MM := (yX12_isCheaper, cX12_isCheaper, 3, (some .boolean))
theorem in_X12_isCheaper : zin mX12_isCheaper := ⟨zmt8 98 rfl rfl, by decide⟩
theorem cv_X12_isCheaper : zcV mX12_isCheaper 10 2 := ⟨⟨in_X12_isCheaper, Nat.le_of_ble_eq_true rfl, zmt1 11 rfl rfl, by decide, by decide, by decide +kernel⟩, by decide, ⟨_, rfl, rfl⟩, zmt8 97 rfl rfl, (zmp8 10 rfl : Cond.selects _ yX12_isCheaper yX12_isCheaper ∈ zTb)⟩
abbrev mX12_isCode : MM := (yX12_isCode, cX12_isCode, 2, (some .boolean))
theorem in_X12_isCode : zin mX12_isCode := ⟨zmt8 137 rfl rfl, by decide⟩
theorem cv_X12_isCode : zcS mX12_isCode 1 := ⟨⟨in_X12_isCode, Nat.le_of_ble_eq_true rfl, zmt1 11 rfl rfl, by decide, by decide, by decide +kernel⟩, zmt8 136 rfl rfl⟩
abbrev mX12_isCompared : MM := (yX12_isCompared, cX12_isCompared, 2, (some .boolean))
theorem in_X12_isCompared : zin mX12_isCompared := ⟨zmt6 234 rfl rfl, by decide⟩
theorem cv_X12_isCompared : zcV mX12_isCompared 10 0 := ⟨⟨in_X12_isCompared, Nat.le_of_ble_eq_true rfl, zmt1 11 rfl rfl, by decide, by decide, by decide +kernel⟩, by decide, ⟨_, rfl, rfl⟩, zmt6 233 rfl rfl, (zmp5 11 rfl : Cond.selects _ yX12_isCompared yX12_isCompared ∈ zTb)⟩
abbrev mX12_isCord : MM := (yX12_isCord, cX12_isCord, 2, (some .boolean))
theorem in_X12_isCord : zin mX12_isCord := ⟨zmt6 125 rfl rfl, by decide⟩
theorem cv_X12_isCord : zcV mX12_isCord 10 1 := ⟨⟨in_X12_isCord, Nat.le_of_ble_eq_true rfl, zmt1 11 rfl rfl, by decide, by decide, by decide +kernel⟩, by decide, ⟨_, rfl, rfl⟩, zmt6 124 rfl rfl, (zmp4 10 rfl : Cond.selects _ yX12_isCord yX12_isCord ∈ zTb)⟩
abbrev mX12_isFigure : MM := (yX12_isFigure, cX12_isFigure, 1, (some .boolean))
theorem in_X12_isFigure : zin mX12_isFigure := ⟨zmt6 156 rfl rfl, by decide⟩
theorem cv_X12_isFigure : zcS mX12_isFigure 1 := ⟨⟨in_X12_isFigure, Nat.le_of_ble_eq_true rfl, zmt1 11 rfl rfl, by decide, by decide, by decide +kernel⟩, zmt6 155 rfl rfl⟩
abbrev mX12_isGiven : MM := (yX12_isGiven, cX12_isGiven, 3, (some .boolean))
theorem in_X12_isGiven : zin mX12_isGiven := ⟨zmt8 54 rfl rfl, by decide⟩
theorem cv_X12_isGiven : zcV mX12_isGiven 10 2 := ⟨⟨in_X12_isGiven, Nat.le_of_ble_eq_true rfl, zmt1 11 rfl rfl, by decide, by decide, by decide +kernel⟩, by decide, ⟨_, rfl, rfl⟩, zmt8 53 rfl rfl, (zmp8 6 rfl : Cond.selects _ yX12_isGiven yX12_isGiven ∈ zTb)⟩
abbrev mX12_isIn : MM := (yX12_isIn, cX12_isIn, 3, (some .boolean))
theorem in_X12_isIn : zin mX12_isIn := ⟨zmt6 101 rfl rfl, by decide⟩
theorem cv_X12_isIn : zcS mX12_isIn 3 := ⟨⟨in_X12_isIn, Nat.le_of_ble_eq_true rfl, zmt1 11 rfl rfl, by decide, by decide, by decide +kernel⟩, zmt6 100 rfl rfl⟩
abbrev mX12_isLetterByte : MM := (yX12_isLetterByte, cX12_isLetterByte, 1, (some .boolean))
theorem in_X12_isLetterByte : zin mX12_isLetterByte := ⟨zmt6 160 rfl rfl, by decide⟩
theorem cv_X12_isLetterByte : zcS mX12_isLetterByte 1 := ⟨⟨in_X12_isLetterByte, Nat.le_of_ble_eq_true rfl, zmt1 11 rfl rfl, by decide, by decide, by decide +kernel⟩, zmt6 159 rfl rfl⟩
abbrev mX12_isLighting : MM := (yX12_isLighting, cX12_isLighting, 4, (some .boolean))
theorem in_X12_isLighting : zin mX12_isLighting := ⟨zmt8 39 rfl rfl, by decide⟩
theorem cv_X12_isLighting : zcV mX12_isLighting 10 2 := ⟨⟨in_X12_isLighting, Nat.le_of_ble_eq_true rfl, zmt1 11 rfl rfl, by decide, by decide, by decide +kernel⟩, by decide, ⟨_, rfl, rfl⟩, zmt8 38 rfl rfl, (zmp8 3 rfl : Cond.selects _ yX12_isLighting yX12_isLighting ∈ zTb)⟩
abbrev mX12_isLower : MM := (yX12_isLower, cX12_isLower, 2, (some .boolean))
theorem in_X12_isLower : zin mX12_isLower := ⟨zmt8 122 rfl rfl, by decide⟩
theorem cv_X12_isLower : zcV mX12_isLower 10 0 := ⟨⟨in_X12_isLower, Nat.le_of_ble_eq_true rfl, zmt1 11 rfl rfl, by decide, by decide, by decide +kernel⟩, by decide, ⟨_, rfl, rfl⟩, zmt8 121 rfl rfl, (zmp8 14 rfl : Cond.selects _ yX12_isLower yX12_isLower ∈ zTb)⟩
abbrev mX12_isNext : MM := (yX12_isNext, cX12_isNext, 6, (some .boolean))
theorem in_X12_isNext : zin mX12_isNext := ⟨zmt8 46 rfl rfl, by decide⟩
theorem cv_X12_isNext : zcV mX12_isNext 10 1 := ⟨⟨in_X12_isNext, Nat.le_of_ble_eq_true rfl, zmt1 11 rfl rfl, by decide, by decide, by decide +kernel⟩, by decide, ⟨_, rfl, rfl⟩, zmt8 45 rfl rfl, (zmp8 4 rfl : Cond.selects _ yX12_isNext yX12_isNext ∈ zTb)⟩
abbrev mX12_isOut : MM := (yX12_isOut, cX12_isOut, 2, (some .boolean))
theorem in_X12_isOut : zin mX12_isOut := ⟨zmt7 60 rfl rfl, by decide⟩
theorem cv_X12_isOut : zcV mX12_isOut 10 1 := ⟨⟨in_X12_isOut, Nat.le_of_ble_eq_true rfl, zmt1 11 rfl rfl, by decide, by decide, by decide +kernel⟩, by decide, ⟨_, rfl, rfl⟩, zmt7 59 rfl rfl, (zmp6 6 rfl : Cond.selects _ yX12_isOut yX12_isOut ∈ zTb)⟩
abbrev mX12_isPlayed : MM := (yX12_isPlayed, cX12_isPlayed, 3, (some .boolean))
theorem in_X12_isPlayed : zin mX12_isPlayed := ⟨zmt7 201 rfl rfl, by decide⟩
theorem cv_X12_isPlayed : zcV mX12_isPlayed 10 1 := ⟨⟨in_X12_isPlayed, Nat.le_of_ble_eq_true rfl, zmt1 11 rfl rfl, by decide, by decide, by decide +kernel⟩, by decide, ⟨_, rfl, rfl⟩, zmt7 200 rfl rfl, (zmp7 13 rfl : Cond.selects _ yX12_isPlayed yX12_isPlayed ∈ zTb)⟩
abbrev mX12_isRow : MM := (yX12_isRow, cX12_isRow, 6, (some .boolean))
theorem in_X12_isRow : zin mX12_isRow := ⟨zmt8 78 rfl rfl, by decide⟩
theorem cv_X12_isRow : zcV mX12_isRow 10 3 := ⟨⟨in_X12_isRow, Nat.le_of_ble_eq_true rfl, zmt1 11 rfl rfl, by decide, by decide, by decide +kernel⟩, by decide, ⟨_, rfl, rfl⟩, zmt8 77 rfl rfl, (zmp8 8 rfl : Cond.selects _ yX12_isRow yX12_isRow ∈ zTb)⟩
abbrev mX12_isSign : MM := (yX12_isSign, cX12_isSign, 1, (some .boolean))
theorem in_X12_isSign : zin mX12_isSign := ⟨zmt6 164 rfl rfl, by decide⟩
theorem cv_X12_isSign : zcS mX12_isSign 1 := ⟨⟨in_X12_isSign, Nat.le_of_ble_eq_true rfl, zmt1 11 rfl rfl, by decide, by decide, by decide +kernel⟩, zmt6 163 rfl rfl⟩
abbrev mX12_isSpan : MM := (yX12_isSpan, cX12_isSpan, 1, (some .boolean))
theorem in_X12_isSpan : zin mX12_isSpan := ⟨zmt8 61 rfl rfl, by decide⟩
theorem cv_X12_isSpan : zcS mX12_isSpan 1 := ⟨⟨in_X12_isSpan, Nat.le_of_ble_eq_true rfl, zmt1 11 rfl rfl, by decide, by decide, by decide +kernel⟩, zmt8 60 rfl rfl⟩
abbrev mX12_isSpanAt : MM := (yX12_isSpanAt, cX12_isSpanAt, 4, (some .boolean))
theorem in_X12_isSpanAt : zin mX12_isSpanAt := ⟨zmt8 82 rfl rfl, by decide⟩
theorem cv_X12_isSpanAt : zcV mX12_isSpanAt 10 2 := ⟨⟨in_X12_isSpanAt, Nat.le_of_ble_eq_true rfl, zmt1 11 rfl rfl, by decide, by decide, by decide +kernel⟩, by decide, ⟨_, rfl, rfl⟩, zmt8 81 rfl rfl, (zmp8 9 rfl : Cond.selects _ yX12_isSpanAt yX12_isSpanAt ∈ zTb)⟩
abbrev mX12_isSuspect : MM := (yX12_isSuspect, cX12_isSuspect, 3, (some .boolean))
theorem in_X12_isSuspect : zin mX12_isSuspect := ⟨zmt8 167 rfl rfl, by decide⟩
theorem cv_X12_isSuspect : zcV mX12_isSuspect 10 1 := ⟨⟨in_X12_isSuspect, Nat.le_of_ble_eq_true rfl, zmt1 11 rfl rfl, by decide, by decide, by decide +kernel⟩, by decide, ⟨_, rfl, rfl⟩, zmt8 166 rfl rfl, (zmp9 2 rfl : Cond.selects _ yX12_isSuspect yX12_isSuspect ∈ zTb)⟩
abbrev mX12_isWord : MM := (yX12_isWord, cX12_isWord, 3, (some .boolean))
theorem in_X12_isWord : zin mX12_isWord := ⟨zmt6 191 rfl rfl, by decide⟩
theorem cv_X12_isWord : zcV mX12_isWord 10 1 := ⟨⟨in_X12_isWord, Nat.le_of_ble_eq_true rfl, zmt1 11 rfl rfl, by decide, by decide, by decide +kernel⟩, by decide, ⟨_, rfl, rfl⟩, zmt6 190 rfl rfl, (zmp5 1 rfl : Cond.selects _ yX12_isWord yX12_isWord ∈ zTb)⟩
abbrev mX12_joined : MM := (yX12_joined, cX12_joined, 3, (some .boolean))
theorem in_X12_joined : zin mX12_joined := ⟨zmt7 109 rfl rfl, by decide⟩
theorem cv_X12_joined : zcS mX12_joined 3 := ⟨⟨in_X12_joined, Nat.le_of_ble_eq_true rfl, zmt1 11 rfl rfl, by decide, by decide, by decide +kernel⟩, zmt7 108 rfl rfl⟩
abbrev mX12_keep : MM := (yX12_keep, cX12_keep, 3, none)
theorem in_X12_keep : zin mX12_keep := ⟨zmt7 116 rfl rfl, by decide⟩
theorem cv_X12_keep : zcV mX12_keep 10 0 := ⟨⟨in_X12_keep, Nat.le_of_ble_eq_true rfl, zmt1 11 rfl rfl, by decide, by decide, by decide +kernel⟩, by decide, ⟨_, rfl, rfl⟩, zmt7 115 rfl rfl, (zmp6 14 rfl : Cond.selects _ yX12_keep yX12_keep ∈ zTb)⟩
abbrev mX12_law : MM := (yX12_law, cX12_law, 4, (some .int))
theorem in_X12_law : zin mX12_law := ⟨zmt7 223 rfl rfl, by decide⟩
theorem cv_X12_law : zcV mX12_law 10 3 := ⟨⟨in_X12_law, Nat.le_of_ble_eq_true rfl, zmt1 11 rfl rfl, by decide, by decide, by decide +kernel⟩, by decide, ⟨_, rfl, rfl⟩, zmt7 221 rfl rfl, zmt7 222 rfl rfl⟩
abbrev mX12_lawClause : MM := (yX12_lawClause, cX12_lawClause, 3, (some .int))
theorem in_X12_lawClause : zin mX12_lawClause := ⟨zmt6 210 rfl rfl, by decide⟩
theorem cv_X12_lawClause : zcV mX12_lawClause 10 1 := ⟨⟨in_X12_lawClause, Nat.le_of_ble_eq_true rfl, zmt1 11 rfl rfl, by decide, by decide, by decide +kernel⟩, by decide, ⟨_, rfl, rfl⟩, zmt6 209 rfl rfl, (zmp5 5 rfl : Cond.selects _ yX12_lawClause yX12_lawClause ∈ zTb)⟩
abbrev mX12_layBundle : MM := (yX12_layBundle, cX12_layBundle, 7, (some .int))
theorem in_X12_layBundle : zin mX12_layBundle := ⟨zmt8 114 rfl rfl, by decide⟩
theorem cv_X12_layBundle : zcV mX12_layBundle 10 0 := ⟨⟨in_X12_layBundle, Nat.le_of_ble_eq_true rfl, zmt1 11 rfl rfl, by decide, by decide, by decide +kernel⟩, by decide, ⟨_, rfl, rfl⟩, zmt8 113 rfl rfl, (zmp8 12 rfl : Cond.selects _ yX12_layBundle yX12_layBundle ∈ zTb)⟩
abbrev mX12_layFirst : MM := (yX12_layFirst, cX12_layFirst, 3, none)
theorem in_X12_layFirst : zin mX12_layFirst := ⟨zmt8 35 rfl rfl, by decide⟩
theorem cv_X12_layFirst : zcV mX12_layFirst 10 1 := ⟨⟨in_X12_layFirst, Nat.le_of_ble_eq_true rfl, zmt1 11 rfl rfl, by decide, by decide, by decide +kernel⟩, by decide, ⟨_, rfl, rfl⟩, zmt8 34 rfl rfl, (zmp8 2 rfl : Cond.selects _ yX12_layFirst yX12_layFirst ∈ zTb)⟩
abbrev mX12_layGames : MM := (yX12_layGames, cX12_layGames, 5, none)
theorem in_X12_layGames : zin mX12_layGames := ⟨zmt8 134 rfl rfl, by decide⟩
theorem cv_X12_layGames : zcV mX12_layGames 10 2 := ⟨⟨in_X12_layGames, Nat.le_of_ble_eq_true rfl, zmt1 11 rfl rfl, by decide, by decide, by decide +kernel⟩, by decide, ⟨_, rfl, rfl⟩, zmt8 133 rfl rfl, (zmp8 15 rfl : Cond.selects _ yX12_layGames yX12_layGames ∈ zTb)⟩
abbrev mX12_layGives : MM := (yX12_layGives, cX12_layGives, 4, none)
theorem in_X12_layGives : zin mX12_layGives := ⟨zmt8 31 rfl rfl, by decide⟩
theorem cv_X12_layGives : zcV mX12_layGives 10 1 := ⟨⟨in_X12_layGives, Nat.le_of_ble_eq_true rfl, zmt1 11 rfl rfl, by decide, by decide, by decide +kernel⟩, by decide, ⟨_, rfl, rfl⟩, zmt8 30 rfl rfl, (zmp8 1 rfl : Cond.selects _ yX12_layGives yX12_layGives ∈ zTb)⟩
abbrev mX12_layRow : MM := (yX12_layRow, cX12_layRow, 4, (some .int))
theorem in_X12_layRow : zin mX12_layRow := ⟨zmt8 73 rfl rfl, by decide⟩
theorem cv_X12_layRow : zcV mX12_layRow 10 2 := ⟨⟨in_X12_layRow, Nat.le_of_ble_eq_true rfl, zmt1 11 rfl rfl, by decide, by decide, by decide +kernel⟩, by decide, ⟨_, rfl, rfl⟩, zmt8 72 rfl rfl, (zmp8 7 rfl : Cond.selects _ yX12_layRow yX12_layRow ∈ zTb)⟩
abbrev mX12_ledger : MM := (yX12_ledger, cX12_ledger, 4, (some .int))
theorem in_X12_ledger : zin mX12_ledger := ⟨zmt7 239 rfl rfl, by decide⟩
theorem cv_X12_ledger : zcV mX12_ledger 10 1 := ⟨⟨in_X12_ledger, Nat.le_of_ble_eq_true rfl, zmt1 11 rfl rfl, by decide, by decide, by decide +kernel⟩, by decide, ⟨_, rfl, rfl⟩, zmt7 237 rfl rfl, zmt7 238 rfl rfl⟩
abbrev mX12_light : MM := (yX12_light, cX12_light, 3, (some .int))
theorem in_X12_light : zin mX12_light := ⟨zmt7 45 rfl rfl, by decide⟩
theorem cv_X12_light : zcV mX12_light 10 2 := ⟨⟨in_X12_light, Nat.le_of_ble_eq_true rfl, zmt1 11 rfl rfl, by decide, by decide, by decide +kernel⟩, by decide, ⟨_, rfl, rfl⟩, zmt7 43 rfl rfl, zmt7 44 rfl rfl⟩
abbrev mX12_lightNow : MM := (yX12_lightNow, cX12_lightNow, 4, (some .int))
theorem in_X12_lightNow : zin mX12_lightNow := ⟨zmt7 120 rfl rfl, by decide⟩
theorem cv_X12_lightNow : zcV mX12_lightNow 10 2 := ⟨⟨in_X12_lightNow, Nat.le_of_ble_eq_true rfl, zmt1 11 rfl rfl, by decide, by decide, by decide +kernel⟩, by decide, ⟨_, rfl, rfl⟩, zmt7 119 rfl rfl, (zmp6 15 rfl : Cond.selects _ yX12_lightNow yX12_lightNow ∈ zTb)⟩
abbrev mX12_lightsOf : MM := (yX12_lightsOf, cX12_lightsOf, 3, (some .int))
theorem in_X12_lightsOf : zin mX12_lightsOf := ⟨zmt7 64 rfl rfl, by decide⟩
theorem cv_X12_lightsOf : zcV mX12_lightsOf 10 2 := ⟨⟨in_X12_lightsOf, Nat.le_of_ble_eq_true rfl, zmt1 11 rfl rfl, by decide, by decide, by decide +kernel⟩, by decide, ⟨_, rfl, rfl⟩, zmt7 63 rfl rfl, (zmp6 7 rfl : Cond.selects _ yX12_lightsOf yX12_lightsOf ∈ zTb)⟩
abbrev mX12_longest : MM := (yX12_longest, cX12_longest, 3, (some .int))
theorem in_X12_longest : zin mX12_longest := ⟨zmt8 3 rfl rfl, by decide⟩
theorem cv_X12_longest : zcV mX12_longest 10 0 := ⟨⟨in_X12_longest, Nat.le_of_ble_eq_true rfl, zmt1 11 rfl rfl, by decide, by decide, by decide +kernel⟩, by decide, ⟨_, rfl, rfl⟩, zmt8 1 rfl rfl, zmt8 2 rfl rfl⟩
abbrev mX12_mark : MM := (yX12_mark, cX12_mark, 5, none)
theorem in_X12_mark : zin mX12_mark := ⟨zmt8 50 rfl rfl, by decide⟩
theorem cv_X12_mark : zcV mX12_mark 10 2 := ⟨⟨in_X12_mark, Nat.le_of_ble_eq_true rfl, zmt1 11 rfl rfl, by decide, by decide, by decide +kernel⟩, by decide, ⟨_, rfl, rfl⟩, zmt8 49 rfl rfl, (zmp8 5 rfl : Cond.selects _ yX12_mark yX12_mark ∈ zTb)⟩
abbrev mX12_minute : MM := (yX12_minute, cX12_minute, 2, (some .int))
theorem in_X12_minute : zin mX12_minute := ⟨zmt7 185 rfl rfl, by decide⟩
theorem cv_X12_minute : zcV mX12_minute 10 1 := ⟨⟨in_X12_minute, Nat.le_of_ble_eq_true rfl, zmt1 11 rfl rfl, by decide, by decide, by decide +kernel⟩, by decide, ⟨_, rfl, rfl⟩, zmt7 183 rfl rfl, zmt7 184 rfl rfl⟩
abbrev mX12_name : MM := (yX12_name, cX12_name, 2, none)
theorem in_X12_name : zin mX12_name := ⟨zmt7 68 rfl rfl, by decide⟩
theorem cv_X12_name : zcV mX12_name 10 1 := ⟨⟨in_X12_name, Nat.le_of_ble_eq_true rfl, zmt1 11 rfl rfl, by decide, by decide, by decide +kernel⟩, by decide, ⟨_, rfl, rfl⟩, zmt7 67 rfl rfl, (zmp6 8 rfl : Cond.selects _ yX12_name yX12_name ∈ zTb)⟩
abbrev mX12_nameOf : MM := (yX12_nameOf, cX12_nameOf, 1, (some .int))
theorem in_X12_nameOf : zin mX12_nameOf := ⟨zmt7 21 rfl rfl, by decide⟩
theorem cv_X12_nameOf : zcV mX12_nameOf 10 0 := ⟨⟨in_X12_nameOf, Nat.le_of_ble_eq_true rfl, zmt1 11 rfl rfl, by decide, by decide, by decide +kernel⟩, by decide, ⟨_, rfl, rfl⟩, zmt7 20 rfl rfl, (zmp6 1 rfl : Cond.selects _ yX12_nameOf yX12_nameOf ∈ zTb)⟩
abbrev mX12_nearest : MM := (yX12_nearest, cX12_nearest, 4, (some .int))
theorem in_X12_nearest : zin mX12_nearest := ⟨zmt8 65 rfl rfl, by decide⟩
theorem cv_X12_nearest : zcV mX12_nearest 10 2 := ⟨⟨in_X12_nearest, Nat.le_of_ble_eq_true rfl, zmt1 11 rfl rfl, by decide, by decide, by decide +kernel⟩, by decide, ⟨_, rfl, rfl⟩, zmt8 63 rfl rfl, zmt8 64 rfl rfl⟩
abbrev mX12_nextOut : MM := (yX12_nextOut, cX12_nextOut, 3, (some .int))
theorem in_X12_nextOut : zin mX12_nextOut := ⟨zmt7 167 rfl rfl, by decide⟩
theorem cv_X12_nextOut : zcV mX12_nextOut 10 0 := ⟨⟨in_X12_nextOut, Nat.le_of_ble_eq_true rfl, zmt1 11 rfl rfl, by decide, by decide, by decide +kernel⟩, by decide, ⟨_, rfl, rfl⟩, zmt7 166 rfl rfl, (zmp7 7 rfl : Cond.selects _ yX12_nextOut yX12_nextOut ∈ zTb)⟩
abbrev mX12_nextToken : MM := (yX12_nextToken, cX12_nextToken, 2, none)
theorem in_X12_nextToken : zin mX12_nextToken := ⟨zmt6 149 rfl rfl, by decide⟩
theorem cv_X12_nextToken : zcV mX12_nextToken 10 0 := ⟨⟨in_X12_nextToken, Nat.le_of_ble_eq_true rfl, zmt1 11 rfl rfl, by decide, by decide, by decide +kernel⟩, by decide, ⟨_, rfl, rfl⟩, zmt6 148 rfl rfl, (zmp4 13 rfl : Cond.selects _ yX12_nextToken yX12_nextToken ∈ zTb)⟩
abbrev mX12_of : MM := (yX12_of, cX12_of, 3, (some .int))
theorem in_X12_of : zin mX12_of := ⟨zmt7 219 rfl rfl, by decide⟩
theorem cv_X12_of : zcV mX12_of 10 2 := ⟨⟨in_X12_of, Nat.le_of_ble_eq_true rfl, zmt1 11 rfl rfl, by decide, by decide, by decide +kernel⟩, by decide, ⟨_, rfl, rfl⟩, zmt7 217 rfl rfl, zmt7 218 rfl rfl⟩
abbrev mX12_ofOne : MM := (yX12_ofOne, cX12_ofOne, 4, (some .long))
theorem in_X12_ofOne : zin mX12_ofOne := ⟨zmt7 87 rfl rfl, by decide⟩
theorem cv_X12_ofOne : zcV mX12_ofOne 10 2 := ⟨⟨in_X12_ofOne, Nat.le_of_ble_eq_true rfl, zmt1 11 rfl rfl, by decide, by decide, by decide +kernel⟩, by decide, ⟨_, rfl, rfl⟩, zmt7 86 rfl rfl, (zmp6 12 rfl : Cond.selects _ yX12_ofOne yX12_ofOne ∈ zTb)⟩
abbrev mX12_openAt : MM := (yX12_openAt, cX12_openAt, 2, (some .int))
theorem in_X12_openAt : zin mX12_openAt := ⟨zmt6 230 rfl rfl, by decide⟩
theorem cv_X12_openAt : zcV mX12_openAt 10 0 := ⟨⟨in_X12_openAt, Nat.le_of_ble_eq_true rfl, zmt1 11 rfl rfl, by decide, by decide, by decide +kernel⟩, by decide, ⟨_, rfl, rfl⟩, zmt6 229 rfl rfl, (zmp5 10 rfl : Cond.selects _ yX12_openAt yX12_openAt ∈ zTb)⟩
abbrev mX12_openNow : MM := (yX12_openNow, cX12_openNow, 1, (some .int))
theorem in_X12_openNow : zin mX12_openNow := ⟨zmt6 226 rfl rfl, by decide⟩
theorem cv_X12_openNow : zcV mX12_openNow 10 0 := ⟨⟨in_X12_openNow, Nat.le_of_ble_eq_true rfl, zmt1 11 rfl rfl, by decide, by decide, by decide +kernel⟩, by decide, ⟨_, rfl, rfl⟩, zmt6 225 rfl rfl, (zmp5 9 rfl : Cond.selects _ yX12_openNow yX12_openNow ∈ zTb)⟩
abbrev mX12_opened : MM := (yX12_opened, cX12_opened, 2, (some .int))
theorem in_X12_opened : zin mX12_opened := ⟨zmt7 25 rfl rfl, by decide⟩
theorem cv_X12_opened : zcV mX12_opened 10 1 := ⟨⟨in_X12_opened, Nat.le_of_ble_eq_true rfl, zmt1 11 rfl rfl, by decide, by decide, by decide +kernel⟩, by decide, ⟨_, rfl, rfl⟩, zmt7 24 rfl rfl, (zmp6 2 rfl : Cond.selects _ yX12_opened yX12_opened ∈ zTb)⟩
abbrev mX12_out : MM := (yX12_out, cX12_out, 2, (some .int))
theorem in_X12_out : zin mX12_out := ⟨zmt8 19 rfl rfl, by decide⟩
theorem cv_X12_out : zcV mX12_out 10 1 := ⟨⟨in_X12_out, Nat.le_of_ble_eq_true rfl, zmt1 11 rfl rfl, by decide, by decide, by decide +kernel⟩, by decide, ⟨_, rfl, rfl⟩, zmt8 17 rfl rfl, zmt8 18 rfl rfl⟩
abbrev mX12_outIn : MM := (yX12_outIn, cX12_outIn, 3, (some .int))
theorem in_X12_outIn : zin mX12_outIn := ⟨zmt7 172 rfl rfl, by decide⟩
theorem cv_X12_outIn : zcV mX12_outIn 10 1 := ⟨⟨in_X12_outIn, Nat.le_of_ble_eq_true rfl, zmt1 11 rfl rfl, by decide, by decide, by decide +kernel⟩, by decide, ⟨_, rfl, rfl⟩, zmt7 171 rfl rfl, (zmp7 8 rfl : Cond.selects _ yX12_outIn yX12_outIn ∈ zTb)⟩
abbrev mX12_outOf : MM := (yX12_outOf, cX12_outOf, 3, (some .long))
theorem in_X12_outOf : zin mX12_outOf := ⟨zmt7 95 rfl rfl, by decide⟩
theorem cv_X12_outOf : zcV mX12_outOf 10 1 := ⟨⟨in_X12_outOf, Nat.le_of_ble_eq_true rfl, zmt1 11 rfl rfl, by decide, by decide, by decide +kernel⟩, by decide, ⟨_, rfl, rfl⟩, zmt7 94 rfl rfl, (zmp6 13 rfl : Cond.selects _ yX12_outOf yX12_outOf ∈ zTb)⟩
abbrev mX12_part : MM := (yX12_part, cX12_part, 2, (some .int))
theorem in_X12_part : zin mX12_part := ⟨zmt8 126 rfl rfl, by decide⟩
theorem cv_X12_part : zcV mX12_part 10 1 := ⟨⟨in_X12_part, Nat.le_of_ble_eq_true rfl, zmt1 11 rfl rfl, by decide, by decide, by decide +kernel⟩, by decide, ⟨_, rfl, rfl⟩, zmt8 124 rfl rfl, zmt8 125 rfl rfl⟩
abbrev mX12_partOf : MM := (yX12_partOf, cX12_partOf, 2, (some .int))
theorem in_X12_partOf : zin mX12_partOf := ⟨zmt7 13 rfl rfl, by decide⟩
theorem cv_X12_partOf : zcV mX12_partOf 10 1 := ⟨⟨in_X12_partOf, Nat.le_of_ble_eq_true rfl, zmt1 11 rfl rfl, by decide, by decide, by decide +kernel⟩, by decide, ⟨_, rfl, rfl⟩, zmt7 12 rfl rfl, (zmp5 15 rfl : Cond.selects _ yX12_partOf yX12_partOf ∈ zTb)⟩
abbrev mX12_pass : MM := (yX12_pass, cX12_pass, 4, none)
theorem in_X12_pass : zin mX12_pass := ⟨zmt7 177 rfl rfl, by decide⟩
theorem cv_X12_pass : zcV mX12_pass 10 1 := ⟨⟨in_X12_pass, Nat.le_of_ble_eq_true rfl, zmt1 11 rfl rfl, by decide, by decide, by decide +kernel⟩, by decide, ⟨_, rfl, rfl⟩, zmt7 176 rfl rfl, (zmp7 9 rfl : Cond.selects _ yX12_pass yX12_pass ∈ zTb)⟩
abbrev mX12_passOne : MM := (yX12_passOne, cX12_passOne, 4, none)
theorem in_X12_passOne : zin mX12_passOne := ⟨zmt7 181 rfl rfl, by decide⟩
theorem cv_X12_passOne : zcV mX12_passOne 10 1 := ⟨⟨in_X12_passOne, Nat.le_of_ble_eq_true rfl, zmt1 11 rfl rfl, by decide, by decide, by decide +kernel⟩, by decide, ⟨_, rfl, rfl⟩, zmt7 180 rfl rfl, (zmp7 10 rfl : Cond.selects _ yX12_passOne yX12_passOne ∈ zTb)⟩
abbrev mX12_played : MM := (yX12_played, cX12_played, 3, (some .int))
theorem in_X12_played : zin mX12_played := ⟨zmt7 197 rfl rfl, by decide⟩
theorem cv_X12_played : zcV mX12_played 10 1 := ⟨⟨in_X12_played, Nat.le_of_ble_eq_true rfl, zmt1 11 rfl rfl, by decide, by decide, by decide +kernel⟩, by decide, ⟨_, rfl, rfl⟩, zmt7 195 rfl rfl, zmt7 196 rfl rfl⟩
abbrev mX12_power : MM := (yX12_power, cX12_power, 6, (some .long))
theorem in_X12_power : zin mX12_power := ⟨zmt8 181 rfl rfl, by decide⟩
theorem cv_X12_power : zcS mX12_power 2 := ⟨⟨in_X12_power, Nat.le_of_ble_eq_true rfl, zmt1 11 rfl rfl, by decide, by decide, by decide +kernel⟩, zmt8 180 rfl rfl⟩
abbrev mX12_priceOf : MM := (yX12_priceOf, cX12_priceOf, 4, (some .int))
theorem in_X12_priceOf : zin mX12_priceOf := ⟨zmt8 102 rfl rfl, by decide⟩
theorem cv_X12_priceOf : zcV mX12_priceOf 10 1 := ⟨⟨in_X12_priceOf, Nat.le_of_ble_eq_true rfl, zmt1 11 rfl rfl, by decide, by decide, by decide +kernel⟩, by decide, ⟨_, rfl, rfl⟩, zmt8 101 rfl rfl, (zmp8 11 rfl : Cond.selects _ yX12_priceOf yX12_priceOf ∈ zTb)⟩
abbrev mX12_put : MM := (yX12_put, cX12_put, 4, none)
theorem in_X12_put : zin mX12_put := ⟨zmt6 113 rfl rfl, by decide⟩
theorem cv_X12_put : zcV mX12_put 10 3 := ⟨⟨in_X12_put, Nat.le_of_ble_eq_true rfl, zmt1 11 rfl rfl, by decide, by decide, by decide +kernel⟩, by decide, ⟨_, rfl, rfl⟩, zmt6 112 rfl rfl, (zmp4 9 rfl : Cond.selects _ yX12_put yX12_put ∈ zTb)⟩
abbrev mX12_rank : MM := (yX12_rank, cX12_rank, 1, (some .int))
theorem in_X12_rank : zin mX12_rank := ⟨zmt6 237 rfl rfl, by decide⟩
theorem cv_X12_rank : zcS mX12_rank 1 := ⟨⟨in_X12_rank, Nat.le_of_ble_eq_true rfl, zmt1 11 rfl rfl, by decide, by decide, by decide +kernel⟩, zmt6 236 rfl rfl⟩
abbrev mX12_readText : MM := (yX12_readText, cX12_readText, 2, (some .int))
theorem in_X12_readText : zin mX12_readText := ⟨zmt6 145 rfl rfl, by decide⟩
theorem cv_X12_readText : zcV mX12_readText 10 0 := ⟨⟨in_X12_readText, Nat.le_of_ble_eq_true rfl, zmt1 11 rfl rfl, by decide, by decide, by decide +kernel⟩, by decide, ⟨_, rfl, rfl⟩, zmt6 144 rfl rfl, (zmp4 12 rfl : Cond.selects _ yX12_readText yX12_readText ∈ zTb)⟩
abbrev mX12_renew : MM := (yX12_renew, cX12_renew, 2, (some .boolean))
theorem in_X12_renew : zin mX12_renew := ⟨zmt7 151 rfl rfl, by decide⟩
theorem cv_X12_renew : zcV mX12_renew 10 1 := ⟨⟨in_X12_renew, Nat.le_of_ble_eq_true rfl, zmt1 11 rfl rfl, by decide, by decide, by decide +kernel⟩, by decide, ⟨_, rfl, rfl⟩, zmt7 149 rfl rfl, zmt7 150 rfl rfl⟩
abbrev mX12_right : MM := (yX12_right, cX12_right, 4, (some .long))
theorem in_X12_right : zin mX12_right := ⟨zmt8 176 rfl rfl, by decide⟩
theorem cv_X12_right : zcV mX12_right 10 3 := ⟨⟨in_X12_right, Nat.le_of_ble_eq_true rfl, zmt1 11 rfl rfl, by decide, by decide, by decide +kernel⟩, by decide, ⟨_, rfl, rfl⟩, zmt8 174 rfl rfl, zmt8 175 rfl rfl⟩
abbrev mX12_row : MM := (yX12_row, cX12_row, 5, (some .int))
theorem in_X12_row : zin mX12_row := ⟨zmt8 69 rfl rfl, by decide⟩
theorem cv_X12_row : zcV mX12_row 10 3 := ⟨⟨in_X12_row, Nat.le_of_ble_eq_true rfl, zmt1 11 rfl rfl, by decide, by decide, by decide +kernel⟩, by decide, ⟨_, rfl, rfl⟩, zmt8 67 rfl rfl, zmt8 68 rfl rfl⟩
abbrev mX12_said : MM := (yX12_said, cX12_said, 3, (some .int))
theorem in_X12_said : zin mX12_said := ⟨zmt8 195 rfl rfl, by decide⟩
theorem cv_X12_said : zcV mX12_said 10 2 := ⟨⟨in_X12_said, Nat.le_of_ble_eq_true rfl, zmt1 11 rfl rfl, by decide, by decide, by decide +kernel⟩, by decide, ⟨_, rfl, rfl⟩, zmt8 193 rfl rfl, zmt8 194 rfl rfl⟩
abbrev mX12_says : MM := (yX12_says, cX12_says, 7, (some .int))
theorem in_X12_says : zin mX12_says := ⟨zmt7 79 rfl rfl, by decide⟩
theorem cv_X12_says : zcV mX12_says 10 5 := ⟨⟨in_X12_says, Nat.le_of_ble_eq_true rfl, zmt1 11 rfl rfl, by decide, by decide, by decide +kernel⟩, by decide, ⟨_, rfl, rfl⟩, zmt7 78 rfl rfl, (zmp6 10 rfl : Cond.selects _ yX12_says yX12_says ∈ zTb)⟩
abbrev mX12_settle : MM := (yX12_settle, cX12_settle, 2, none)
theorem in_X12_settle : zin mX12_settle := ⟨zmt7 5 rfl rfl, by decide⟩
theorem cv_X12_settle : zcV mX12_settle 10 1 := ⟨⟨in_X12_settle, Nat.le_of_ble_eq_true rfl, zmt1 11 rfl rfl, by decide, by decide, by decide +kernel⟩, by decide, ⟨_, rfl, rfl⟩, zmt7 4 rfl rfl, (zmp5 13 rfl : Cond.selects _ yX12_settle yX12_settle ∈ zTb)⟩
abbrev mX12_share : MM := (yX12_share, cX12_share, 5, (some .long))
theorem in_X12_share : zin mX12_share := ⟨zmt8 184 rfl rfl, by decide⟩
theorem cv_X12_share : zcS mX12_share 3 := ⟨⟨in_X12_share, Nat.le_of_ble_eq_true rfl, zmt1 11 rfl rfl, by decide, by decide, by decide +kernel⟩, zmt8 183 rfl rfl⟩
abbrev mX12_shifts : MM := (yX12_shifts, cX12_shifts, 5, (some .int))
theorem in_X12_shifts : zin mX12_shifts := ⟨zmt7 211 rfl rfl, by decide⟩
theorem cv_X12_shifts : zcV mX12_shifts 10 2 := ⟨⟨in_X12_shifts, Nat.le_of_ble_eq_true rfl, zmt1 11 rfl rfl, by decide, by decide, by decide +kernel⟩, by decide, ⟨_, rfl, rfl⟩, zmt7 209 rfl rfl, zmt7 210 rfl rfl⟩
abbrev mX12_sideBit : MM := (yX12_sideBit, cX12_sideBit, 1, (some .int))
theorem in_X12_sideBit : zin mX12_sideBit := ⟨zmt7 56 rfl rfl, by decide⟩
theorem cv_X12_sideBit : zcS mX12_sideBit 1 := ⟨⟨in_X12_sideBit, Nat.le_of_ble_eq_true rfl, zmt1 11 rfl rfl, by decide, by decide, by decide +kernel⟩, zmt7 55 rfl rfl⟩
abbrev mX12_snuff : MM := (yX12_snuff, cX12_snuff, 3, (some .boolean))
theorem in_X12_snuff : zin mX12_snuff := ⟨zmt7 139 rfl rfl, by decide⟩
theorem cv_X12_snuff : zcV mX12_snuff 10 2 := ⟨⟨in_X12_snuff, Nat.le_of_ble_eq_true rfl, zmt1 11 rfl rfl, by decide, by decide, by decide +kernel⟩, by decide, ⟨_, rfl, rfl⟩, zmt7 137 rfl rfl, zmt7 138 rfl rfl⟩
abbrev mX12_snuffNow : MM := (yX12_snuffNow, cX12_snuffNow, 3, none)
theorem in_X12_snuffNow : zin mX12_snuffNow := ⟨zmt7 147 rfl rfl, by decide⟩
theorem cv_X12_snuffNow : zcV mX12_snuffNow 10 2 := ⟨⟨in_X12_snuffNow, Nat.le_of_ble_eq_true rfl, zmt1 11 rfl rfl, by decide, by decide, by decide +kernel⟩, by decide, ⟨_, rfl, rfl⟩, zmt7 146 rfl rfl, (zmp7 4 rfl : Cond.selects _ yX12_snuffNow yX12_snuffNow ∈ zTb)⟩
abbrev mX12_sortOf : MM := (yX12_sortOf, cX12_sortOf, 1, (some .int))
theorem in_X12_sortOf : zin mX12_sortOf := ⟨zmt6 172 rfl rfl, by decide⟩
theorem cv_X12_sortOf : zcV mX12_sortOf 10 0 := ⟨⟨in_X12_sortOf, Nat.le_of_ble_eq_true rfl, zmt1 11 rfl rfl, by decide, by decide, by decide +kernel⟩, by decide, ⟨_, rfl, rfl⟩, zmt6 171 rfl rfl, (zmp5 0 rfl : Cond.selects _ yX12_sortOf yX12_sortOf ∈ zTb)⟩
abbrev mX12_spans : MM := (yX12_spans, cX12_spans, 5, (some .int))
theorem in_X12_spans : zin mX12_spans := ⟨zmt8 23 rfl rfl, by decide⟩
theorem cv_X12_spans : zcV mX12_spans 10 2 := ⟨⟨in_X12_spans, Nat.le_of_ble_eq_true rfl, zmt1 11 rfl rfl, by decide, by decide, by decide +kernel⟩, by decide, ⟨_, rfl, rfl⟩, zmt8 21 rfl rfl, zmt8 22 rfl rfl⟩
abbrev mX12_summed : MM := (yX12_summed, cX12_summed, 2, (some .int))
theorem in_X12_summed : zin mX12_summed := ⟨zmt6 214 rfl rfl, by decide⟩
theorem cv_X12_summed : zcV mX12_summed 10 0 := ⟨⟨in_X12_summed, Nat.le_of_ble_eq_true rfl, zmt1 11 rfl rfl, by decide, by decide, by decide +kernel⟩, by decide, ⟨_, rfl, rfl⟩, zmt6 213 rfl rfl, (zmp5 6 rfl : Cond.selects _ yX12_summed yX12_summed ∈ zTb)⟩
abbrev mX12_summedUp : MM := (yX12_summedUp, cX12_summedUp, 10, (some .long))
theorem in_X12_summedUp : zin mX12_summedUp := ⟨zmt7 83 rfl rfl, by decide⟩
theorem cv_X12_summedUp : zcV mX12_summedUp 10 2 := ⟨⟨in_X12_summedUp, Nat.le_of_ble_eq_true rfl, zmt1 11 rfl rfl, by decide, by decide, by decide +kernel⟩, by decide, ⟨_, rfl, rfl⟩, zmt7 82 rfl rfl, (zmp6 11 rfl : Cond.selects _ yX12_summedUp yX12_summedUp ∈ zTb)⟩
abbrev mX12_suspects : MM := (yX12_suspects, cX12_suspects, 7, (some .int))
theorem in_X12_suspects : zin mX12_suspects := ⟨zmt8 163 rfl rfl, by decide⟩
theorem cv_X12_suspects : zcV mX12_suspects 10 1 := ⟨⟨in_X12_suspects, Nat.le_of_ble_eq_true rfl, zmt1 11 rfl rfl, by decide, by decide, by decide +kernel⟩, by decide, ⟨_, rfl, rfl⟩, zmt8 161 rfl rfl, zmt8 162 rfl rfl⟩
abbrev mX12_take : MM := (yX12_take, cX12_take, 4, (some .int))
theorem in_X12_take : zin mX12_take := ⟨zmt8 155 rfl rfl, by decide⟩
theorem cv_X12_take : zcV mX12_take 10 2 := ⟨⟨in_X12_take, Nat.le_of_ble_eq_true rfl, zmt1 11 rfl rfl, by decide, by decide, by decide +kernel⟩, by decide, ⟨_, rfl, rfl⟩, zmt8 153 rfl rfl, zmt8 154 rfl rfl⟩
abbrev mX12_takenBy : MM := (yX12_takenBy, cX12_takenBy, 6, (some .int))
theorem in_X12_takenBy : zin mX12_takenBy := ⟨zmt8 148 rfl rfl, by decide⟩
theorem cv_X12_takenBy : zcV mX12_takenBy 10 4 := ⟨⟨in_X12_takenBy, Nat.le_of_ble_eq_true rfl, zmt1 11 rfl rfl, by decide, by decide, by decide +kernel⟩, by decide, ⟨_, rfl, rfl⟩, zmt8 147 rfl rfl, (zmp9 1 rfl : Cond.selects _ yX12_takenBy yX12_takenBy ∈ zTb)⟩
abbrev mX12_test : MM := (yX12_test, cX12_test, 7, (some .int))
theorem in_X12_test : zin mX12_test := ⟨zmt8 171 rfl rfl, by decide⟩
theorem cv_X12_test : zcV mX12_test 10 0 := ⟨⟨in_X12_test, Nat.le_of_ble_eq_true rfl, zmt1 11 rfl rfl, by decide, by decide, by decide +kernel⟩, by decide, ⟨_, rfl, rfl⟩, zmt8 169 rfl rfl, zmt8 170 rfl rfl⟩
abbrev mX12_text : MM := (yX12_text, cX12_text, 1, (some .int))
theorem in_X12_text : zin mX12_text := ⟨zmt6 141 rfl rfl, by decide⟩
theorem cv_X12_text : zcV mX12_text 10 0 := ⟨⟨in_X12_text, Nat.le_of_ble_eq_true rfl, zmt1 11 rfl rfl, by decide, by decide, by decide +kernel⟩, by decide, ⟨_, rfl, rfl⟩, zmt6 139 rfl rfl, zmt6 140 rfl rfl⟩
abbrev mX12_tried : MM := (yX12_tried, cX12_tried, 3, (some .int))
theorem in_X12_tried : zin mX12_tried := ⟨zmt8 159 rfl rfl, by decide⟩
theorem cv_X12_tried : zcV mX12_tried 10 2 := ⟨⟨in_X12_tried, Nat.le_of_ble_eq_true rfl, zmt1 11 rfl rfl, by decide, by decide, by decide +kernel⟩, by decide, ⟨_, rfl, rfl⟩, zmt8 157 rfl rfl, zmt8 158 rfl rfl⟩
abbrev mX12_tries : MM := (yX12_tries, cX12_tries, 7, (some .long))
theorem in_X12_tries : zin mX12_tries := ⟨zmt8 191 rfl rfl, by decide⟩
theorem cv_X12_tries : zcV mX12_tries 10 4 := ⟨⟨in_X12_tries, Nat.le_of_ble_eq_true rfl, zmt1 11 rfl rfl, by decide, by decide, by decide +kernel⟩, by decide, ⟨_, rfl, rfl⟩, zmt8 189 rfl rfl, zmt8 190 rfl rfl⟩
abbrev mX12_turned : MM := (yX12_turned, cX12_turned, 4, (some .int))
theorem in_X12_turned : zin mX12_turned := ⟨zmt8 151 rfl rfl, by decide⟩
theorem cv_X12_turned : zcS mX12_turned 1 := ⟨⟨in_X12_turned, Nat.le_of_ble_eq_true rfl, zmt1 11 rfl rfl, by decide, by decide, by decide +kernel⟩, zmt8 150 rfl rfl⟩
abbrev mX12_two : MM := (yX12_two, cX12_two, 5, (some .long))
theorem in_X12_two : zin mX12_two := ⟨zmt7 98 rfl rfl, by decide⟩
theorem cv_X12_two : zcS mX12_two 3 := ⟨⟨in_X12_two, Nat.le_of_ble_eq_true rfl, zmt1 11 rfl rfl, by decide, by decide, by decide +kernel⟩, zmt7 97 rfl rfl⟩
abbrev mX12_twosOf : MM := (yX12_twosOf, cX12_twosOf, 4, (some .long))
theorem in_X12_twosOf : zin mX12_twosOf := ⟨zmt7 90 rfl rfl, by decide⟩
theorem cv_X12_twosOf : zcS mX12_twosOf 1 := ⟨⟨in_X12_twosOf, Nat.le_of_ble_eq_true rfl, zmt1 11 rfl rfl, by decide, by decide, by decide +kernel⟩, zmt7 89 rfl rfl⟩
abbrev mX12_undo : MM := (yX12_undo, cX12_undo, 3, (some .int))
theorem in_X12_undo : zin mX12_undo := ⟨zmt7 41 rfl rfl, by decide⟩
theorem cv_X12_undo : zcV mX12_undo 10 0 := ⟨⟨in_X12_undo, Nat.le_of_ble_eq_true rfl, zmt1 11 rfl rfl, by decide, by decide, by decide +kernel⟩, by decide, ⟨_, rfl, rfl⟩, zmt7 39 rfl rfl, zmt7 40 rfl rfl⟩
abbrev mX12_w2 : MM := (yX12_w2, cX12_w2, 2, (some .long))
theorem in_X12_w2 : zin mX12_w2 := ⟨zmt6 187 rfl rfl, by decide⟩
theorem cv_X12_w2 : zcS mX12_w2 2 := ⟨⟨in_X12_w2, Nat.le_of_ble_eq_true rfl, zmt1 11 rfl rfl, by decide, by decide, by decide +kernel⟩, zmt6 186 rfl rfl⟩
abbrev mX12_w3 : MM := (yX12_w3, cX12_w3, 3, (some .long))
theorem in_X12_w3 : zin mX12_w3 := ⟨zmt6 184 rfl rfl, by decide⟩
theorem cv_X12_w3 : zcS mX12_w3 3 := ⟨⟨in_X12_w3, Nat.le_of_ble_eq_true rfl, zmt1 11 rfl rfl, by decide, by decide, by decide +kernel⟩, zmt6 183 rfl rfl⟩
abbrev mX12_w4 : MM := (yX12_w4, cX12_w4, 4, (some .long))
theorem in_X12_w4 : zin mX12_w4 := ⟨zmt6 181 rfl rfl, by decide⟩
theorem cv_X12_w4 : zcS mX12_w4 4 := ⟨⟨in_X12_w4, Nat.le_of_ble_eq_true rfl, zmt1 11 rfl rfl, by decide, by decide, by decide +kernel⟩, zmt6 180 rfl rfl⟩
abbrev mX12_w5 : MM := (yX12_w5, cX12_w5, 5, (some .long))
theorem in_X12_w5 : zin mX12_w5 := ⟨zmt6 178 rfl rfl, by decide⟩
theorem cv_X12_w5 : zcS mX12_w5 5 := ⟨⟨in_X12_w5, Nat.le_of_ble_eq_true rfl, zmt1 11 rfl rfl, by decide, by decide, by decide +kernel⟩, zmt6 177 rfl rfl⟩
abbrev mX12_w6 : MM := (yX12_w6, cX12_w6, 6, (some .long))
theorem in_X12_w6 : zin mX12_w6 := ⟨zmt6 175 rfl rfl, by decide⟩
theorem cv_X12_w6 : zcS mX12_w6 6 := ⟨⟨in_X12_w6, Nat.le_of_ble_eq_true rfl, zmt1 11 rfl rfl, by decide, by decide, by decide +kernel⟩, zmt6 174 rfl rfl⟩
abbrev mX12_want : MM := (yX12_want, cX12_want, 2, (some .int))
theorem in_X12_want : zin mX12_want := ⟨zmt8 106 rfl rfl, by decide⟩
theorem cv_X12_want : zcV mX12_want 10 1 := ⟨⟨in_X12_want, Nat.le_of_ble_eq_true rfl, zmt1 11 rfl rfl, by decide, by decide, by decide +kernel⟩, by decide, ⟨_, rfl, rfl⟩, zmt8 104 rfl rfl, zmt8 105 rfl rfl⟩
abbrev mX12_wet : MM := (yX12_wet, cX12_wet, 3, (some .boolean))
theorem in_X12_wet : zin mX12_wet := ⟨zmt6 121 rfl rfl, by decide⟩
theorem cv_X12_wet : zcV mX12_wet 10 2 := ⟨⟨in_X12_wet, Nat.le_of_ble_eq_true rfl, zmt1 11 rfl rfl, by decide, by decide, by decide +kernel⟩, by decide, ⟨_, rfl, rfl⟩, zmt6 119 rfl rfl, zmt6 120 rfl rfl⟩
abbrev mX12_whose : MM := (yX12_whose, cX12_whose, 5, (some .int))
theorem in_X12_whose : zin mX12_whose := ⟨zmt8 199 rfl rfl, by decide⟩
theorem cv_X12_whose : zcV mX12_whose 10 0 := ⟨⟨in_X12_whose, Nat.le_of_ble_eq_true rfl, zmt1 11 rfl rfl, by decide, by decide, by decide +kernel⟩, by decide, ⟨_, rfl, rfl⟩, zmt8 197 rfl rfl, zmt8 198 rfl rfl⟩
abbrev mX12_write : MM := (yX12_write, cX12_write, 5, none)
theorem in_X12_write : zin mX12_write := ⟨zmt7 135 rfl rfl, by decide⟩
theorem cv_X12_write : zcV mX12_write 10 3 := ⟨⟨in_X12_write, Nat.le_of_ble_eq_true rfl, zmt1 11 rfl rfl, by decide, by decide, by decide +kernel⟩, by decide, ⟨_, rfl, rfl⟩, zmt7 134 rfl rfl, (zmp7 2 rfl : Cond.selects _ yX12_write yX12_write ∈ zTb)⟩
abbrev mJ6_bitCount_0f7a4 : MM := (yJ6_bitCount_0f7a4, cJ6_bitCount_0f7a4, 1, (some .int))
theorem in_J6_bitCount_0f7a4 : zin mJ6_bitCount_0f7a4 := ⟨zmt4 53 rfl rfl, by decide⟩
theorem cv_J6_bitCount_0f7a4 : zcS mJ6_bitCount_0f7a4 1 := ⟨⟨in_J6_bitCount_0f7a4, Nat.le_of_ble_eq_true rfl, zmt1 19 rfl rfl, by decide, by decide, by decide +kernel⟩, zmt4 52 rfl rfl⟩
abbrev mJ13_bitCount_95d88 : MM := (yJ13_bitCount_95d88, cJ13_bitCount_95d88, 2, (some .int))
theorem in_J13_bitCount_95d88 : zin mJ13_bitCount_95d88 := ⟨zmt4 189 rfl rfl, by decide⟩
theorem cv_J13_bitCount_95d88 : zcS mJ13_bitCount_95d88 1 := ⟨⟨in_J13_bitCount_95d88, Nat.le_of_ble_eq_true rfl, zmt1 20 rfl rfl, by decide, by decide, by decide +kernel⟩, zmt4 188 rfl rfl⟩
abbrev mJ0_charAt_5068e : MM := (yJ0_charAt_5068e, cJ0_charAt_5068e, 2, (some .char))
theorem in_J0_charAt_5068e : zin mJ0_charAt_5068e := ⟨zmt2 199 rfl rfl, by decide⟩
theorem cv_J0_charAt_5068e : zcW mJ0_charAt_5068e 1 := ⟨⟨in_J0_charAt_5068e, Nat.le_of_ble_eq_true rfl, zmt1 12 rfl rfl, by decide, by decide, by decide +kernel⟩, rfl, zmt2 197 rfl rfl, zmt2 198 rfl rfl⟩
abbrev mJ0_checkIndex_df160 : MM := (yJ0_checkIndex_df160, cJ0_checkIndex_df160, 2, none)
theorem in_J0_checkIndex_df160 : zin mJ0_checkIndex_df160 := ⟨zmt2 209 rfl rfl, by decide⟩
theorem cv_J0_checkIndex_df160 : zcS mJ0_checkIndex_df160 2 := ⟨⟨in_J0_checkIndex_df160, Nat.le_of_ble_eq_true rfl, zmt1 12 rfl rfl, by decide, by decide, by decide +kernel⟩, zmt2 208 rfl rfl⟩
abbrev mJ0_coder_7d493 : MM := (yJ0_coder_7d493, cJ0_coder_7d493, 1, (some .byte))
theorem in_J0_coder_7d493 : zin mJ0_coder_7d493 := ⟨zmt2 193 rfl rfl, by decide⟩
theorem cv_J0_coder_7d493 : zcW mJ0_coder_7d493 0 := ⟨⟨in_J0_coder_7d493, Nat.le_of_ble_eq_true rfl, zmt1 12 rfl rfl, by decide, by decide, by decide +kernel⟩, rfl, zmt2 191 rfl rfl, zmt2 192 rfl rfl⟩
abbrev mJ0_indexOf_0f7a4 : MM := (yJ0_indexOf_0f7a4, cJ0_indexOf_0f7a4, 2, (some .int))
theorem in_J0_indexOf_0f7a4 : zin mJ0_indexOf_0f7a4 := ⟨zmt3 16 rfl rfl, by decide⟩
theorem cv_J0_indexOf_0f7a4 : zcW mJ0_indexOf_0f7a4 1 := ⟨⟨in_J0_indexOf_0f7a4, Nat.le_of_ble_eq_true rfl, zmt1 12 rfl rfl, by decide, by decide, by decide +kernel⟩, rfl, zmt3 14 rfl rfl, zmt3 15 rfl rfl⟩
abbrev mJ0_indexOf_7cf53 : MM := (yJ0_indexOf_7cf53, cJ0_indexOf_7cf53, 3, (some .int))
theorem in_J0_indexOf_7cf53 : zin mJ0_indexOf_7cf53 := ⟨zmt3 20 rfl rfl, by decide⟩
theorem cv_J0_indexOf_7cf53 : zcW mJ0_indexOf_7cf53 2 := ⟨⟨in_J0_indexOf_7cf53, Nat.le_of_ble_eq_true rfl, zmt1 12 rfl rfl, by decide, by decide, by decide +kernel⟩, rfl, zmt3 18 rfl rfl, zmt3 19 rfl rfl⟩
abbrev mJ0_isLatin1_aae02 : MM := (yJ0_isLatin1_aae02, cJ0_isLatin1_aae02, 1, (some .boolean))
theorem in_J0_isLatin1_aae02 : zin mJ0_isLatin1_aae02 := ⟨zmt2 203 rfl rfl, by decide⟩
theorem cv_J0_isLatin1_aae02 : zcW mJ0_isLatin1_aae02 0 := ⟨⟨in_J0_isLatin1_aae02, Nat.le_of_ble_eq_true rfl, zmt1 12 rfl rfl, by decide, by decide, by decide +kernel⟩, rfl, zmt2 201 rfl rfl, zmt2 202 rfl rfl⟩
abbrev mJ0_length_8abf5 : MM := (yJ0_length_8abf5, cJ0_length_8abf5, 1, (some .int))
theorem in_J0_length_8abf5 : zin mJ0_length_8abf5 := ⟨zmt2 189 rfl rfl, by decide⟩
theorem cv_J0_length_8abf5 : zcW mJ0_length_8abf5 0 := ⟨⟨in_J0_length_8abf5, Nat.le_of_ble_eq_true rfl, zmt1 12 rfl rfl, by decide, by decide, by decide +kernel⟩, rfl, zmt2 187 rfl rfl, zmt2 188 rfl rfl⟩
abbrev mJ1_canEncode_9a6ad : MM := (yJ1_canEncode_9a6ad, cJ1_canEncode_9a6ad, 1, (some .boolean))
theorem in_J1_canEncode_9a6ad : zin mJ1_canEncode_9a6ad := ⟨zmt3 27 rfl rfl, by decide⟩
theorem cv_J1_canEncode_9a6ad : zcS mJ1_canEncode_9a6ad 1 := ⟨⟨in_J1_canEncode_9a6ad, Nat.le_of_ble_eq_true rfl, zmt1 13 rfl rfl, by decide, by decide, by decide +kernel⟩, zmt3 26 rfl rfl⟩
abbrev mJ1_charAt_3b067 : MM := (yJ1_charAt_3b067, cJ1_charAt_3b067, 2, (some .char))
theorem in_J1_charAt_3b067 : zin mJ1_charAt_3b067 := ⟨zmt2 206 rfl rfl, by decide⟩
theorem cv_J1_charAt_3b067 : zcS mJ1_charAt_3b067 2 := ⟨⟨in_J1_charAt_3b067, Nat.le_of_ble_eq_true rfl, zmt1 13 rfl rfl, by decide, by decide, by decide +kernel⟩, zmt2 205 rfl rfl⟩
abbrev mJ1_indexOf_4cfef : MM := (yJ1_indexOf_4cfef, cJ1_indexOf_4cfef, 4, (some .int))
theorem in_J1_indexOf_4cfef : zin mJ1_indexOf_4cfef := ⟨zmt3 24 rfl rfl, by decide⟩
theorem cv_J1_indexOf_4cfef : zcS mJ1_indexOf_4cfef 4 := ⟨⟨in_J1_indexOf_4cfef, Nat.le_of_ble_eq_true rfl, zmt1 13 rfl rfl, by decide, by decide, by decide +kernel⟩, zmt3 23 rfl rfl⟩
abbrev mJ1_indexOfChar_4cfef : MM := (yJ1_indexOfChar_4cfef, cJ1_indexOfChar_4cfef, 6, (some .int))
theorem in_J1_indexOfChar_4cfef : zin mJ1_indexOfChar_4cfef := ⟨zmt3 34 rfl rfl, by decide⟩
theorem cv_J1_indexOfChar_4cfef : zcS mJ1_indexOfChar_4cfef 4 := ⟨⟨in_J1_indexOfChar_4cfef, Nat.le_of_ble_eq_true rfl, zmt1 13 rfl rfl, by decide, by decide, by decide +kernel⟩, zmt3 33 rfl rfl⟩
abbrev mJ3_checkIndex_8e157 : MM := (yJ3_checkIndex_8e157, cJ3_checkIndex_8e157, 3, (some .int))
theorem in_J3_checkIndex_8e157 : zin mJ3_checkIndex_8e157 := ⟨zmt2 214 rfl rfl, by decide⟩
theorem cv_J3_checkIndex_8e157 : zcS mJ3_checkIndex_8e157 3 := ⟨⟨in_J3_checkIndex_8e157, Nat.le_of_ble_eq_true rfl, zmt1 14 rfl rfl, by decide, by decide, by decide +kernel⟩, zmt2 213 rfl rfl⟩
theorem cpt_w : Cond.fieldLink RJ0 38 "java/lang/String" "COMPACT_STRINGS" "Z" ∈ zTb := zmt2 194 rfl rfl
theorem fmt_w : Cond.fieldLink RJ0 1053 "jdk/internal/util/Preconditions" "SIOOBE_FORMATTER" "Ljava/util/function/BiFunction;" ∈ zTb := zmt2 210 rfl rfl
theorem val_w : Cond.fieldLink RJ0 9 "java/lang/String" "value" "[B" ∈ zTb := zmt8 212 rfl rfl
theorem cod_w : Cond.fieldLink RJ0 15 "java/lang/String" "coder" "B" ∈ zTb := zmt8 213 rfl rfl
theorem zk_0 : zk 333 0 (9, 0) := ⟨by decide, by decide +kernel⟩
theorem zk_1 : zk 333 1 (5, 0) := ⟨by decide, by decide +kernel⟩
theorem zk_2 : zk 333 2 (1, 0) := ⟨by decide, by decide +kernel⟩
theorem zk_3 : zk 333 3 (20, 4) := ⟨by decide, by decide +kernel⟩
theorem zk_4 : zk 333 4 (20, 4) := ⟨by decide, by decide +kernel⟩
theorem zk_5 : zk 333 5 (20, 30) := ⟨by decide, by decide +kernel⟩
theorem zk_6 : zk 333 6 (4, 0) := ⟨by decide, by decide +kernel⟩
theorem zk_128 : zk 333 128 (20, 4) := ⟨by decide, by decide +kernel⟩
theorem zk_129 : zk 333 129 (20, 4) := ⟨by decide, by decide +kernel⟩
theorem zk_130 : zk 333 130 (8, 0) := ⟨by decide, by decide +kernel⟩
theorem zk_131 : zk 333 131 (20, 4) := ⟨by decide, by decide +kernel⟩
theorem zk_132 : zk 333 132 (8, 0) := ⟨by decide, by decide +kernel⟩
theorem zk_134 : zk 333 134 (8, 0) := ⟨by decide, by decide +kernel⟩
theorem zk_135 : zk 333 135 (20, 8) := ⟨by decide, by decide +kernel⟩
theorem zk_136 : zk 333 136 (5, 0) := ⟨by decide, by decide +kernel⟩
theorem zk_271 : zk 333 271 (2, 0) := ⟨by decide, by decide +kernel⟩
theorem zk_272 : zk 333 272 (20, 300) := ⟨by decide, by decide +kernel⟩
theorem zk_273 : zk 333 273 (24, 4) := ⟨by decide, by decide +kernel⟩
theorem zk_274 : zk 333 274 (6, 0) := ⟨by decide, by decide +kernel⟩
theorem zk_275 : zk 333 275 (20, 301) := ⟨by decide, by decide +kernel⟩
theorem zk_276 : zk 333 276 (3, 0) := ⟨by decide, by decide +kernel⟩
theorem zk_277 : zk 333 277 (21, 3856) := ⟨by decide, by decide +kernel⟩
theorem zk_278 : zk 333 278 (20, 20) := ⟨by decide, by decide +kernel⟩
theorem zk_279 : zk 333 279 (20, 20) := ⟨by decide, by decide +kernel⟩
theorem zk_280 : zk 333 280 (20, 20) := ⟨by decide, by decide +kernel⟩
theorem zk_281 : zk 333 281 (20, 5) := ⟨by decide, by decide +kernel⟩
theorem zk_282 : zk 333 282 (0, 0) := ⟨by decide, by decide +kernel⟩
theorem zk_283 : zk 333 283 (20, 4) := ⟨by decide, by decide +kernel⟩
theorem zk_284 : zk 333 284 (20, 4) := ⟨by decide, by decide +kernel⟩
theorem zk_313 : zk 333 313 (10, 0) := ⟨by decide, by decide +kernel⟩
theorem zk_314 : zk 333 314 (20, 1385) := ⟨by decide, by decide +kernel⟩
theorem zk_315 : zk 333 315 (20, 1385) := ⟨by decide, by decide +kernel⟩
theorem zk_316 : zk 333 316 (20, 2724) := ⟨by decide, by decide +kernel⟩
theorem zk_317 : zk 333 317 (20, 300) := ⟨by decide, by decide +kernel⟩
theorem zk_318 : zk 333 318 (20, 160) := ⟨by decide, by decide +kernel⟩
theorem zk_319 : zk 333 319 (20, 7) := ⟨by decide, by decide +kernel⟩
theorem zk_320 : zk 333 320 (21, 330) := ⟨by decide, by decide +kernel⟩
theorem zk_321 : zk 333 321 (22, 330) := ⟨by decide, by decide +kernel⟩
theorem zk_322 : zk 333 322 (20, 20) := ⟨by decide, by decide +kernel⟩
theorem zk_323 : zk 333 323 (20, 6) := ⟨by decide, by decide +kernel⟩
theorem zk_324 : zk 333 324 (20, 6) := ⟨by decide, by decide +kernel⟩
theorem zk_325 : zk 333 325 (20, 24) := ⟨by decide, by decide +kernel⟩
theorem zk_326 : zk 333 326 (20, 24) := ⟨by decide, by decide +kernel⟩
theorem zk_327 : zk 333 327 (22, 245776) := ⟨by decide, by decide +kernel⟩
theorem zk_328 : zk 333 328 (20, 16) := ⟨by decide, by decide +kernel⟩
theorem zk_329 : zk 333 329 (20, 5) := ⟨by decide, by decide +kernel⟩
theorem zk_330 : zk 333 330 (20, 5) := ⟨by decide, by decide +kernel⟩
theorem zk_331 : zk 333 331 (20, 256) := ⟨by decide, by decide +kernel⟩
theorem zk_332 : zk 333 332 (20, 256) := ⟨by decide, by decide +kernel⟩
theorem zko_1_4 {q : Nat} (h : zk 333 q (1, 0)) : zk 333 (q + 1) (20, 4) := by
  have key : ∀ q, q < 333 → zs q = (1, 0) → q + 1 < 333 ∧ zs (q + 1) = (20, 4) := by decide +kernel
  exact key q h.1 h.2
theorem zko_1_5 {q : Nat} (h : zk 333 q (1, 0)) : zk 333 (q + 2) (20, 4) := by
  have key : ∀ q, q < 333 → zs q = (1, 0) → q + 2 < 333 ∧ zs (q + 2) = (20, 4) := by decide +kernel
  exact key q h.1 h.2
theorem zko_1_6 {q : Nat} (h : zk 333 q (1, 0)) : zk 333 (q + 3) (20, 30) := by
  have key : ∀ q, q < 333 → zs q = (1, 0) → q + 3 < 333 ∧ zs (q + 3) = (20, 30) := by decide +kernel
  exact key q h.1 h.2
theorem zko_4_0 {q : Nat} (h : zk 333 q (4, 0)) : zk 333 (q + 1) (23, 30) := by
  have key : ∀ q, q < 333 → zs q = (4, 0) → q + 1 < 333 ∧ zs (q + 1) = (23, 30) := by decide +kernel
  exact key q h.1 h.2
theorem zko_5_0 {q : Nat} (h : zk 333 q (5, 0)) : zk 333 (q + 1) (1, 0) := by
  have key : ∀ q, q < 333 → zs q = (5, 0) → q + 1 < 333 ∧ zs (q + 1) = (1, 0) := by decide +kernel
  exact key q h.1 h.2
theorem zko_5_1 {q : Nat} (h : zk 333 q (5, 0)) : zk 333 (q + 5) (4, 0) := by
  have key : ∀ q, q < 333 → zs q = (5, 0) → q + 5 < 333 ∧ zs (q + 5) = (4, 0) := by decide +kernel
  exact key q h.1 h.2
theorem zko_5_2 {q : Nat} (h : zk 333 q (5, 0)) : zk 333 (q + 127) (20, 4) := by
  have key : ∀ q, q < 333 → zs q = (5, 0) → q + 127 < 333 ∧ zs (q + 127) = (20, 4) := by decide +kernel
  exact key q h.1 h.2
theorem zko_5_3 {q : Nat} (h : zk 333 q (5, 0)) : zk 333 (q + 128) (20, 4) := by
  have key : ∀ q, q < 333 → zs q = (5, 0) → q + 128 < 333 ∧ zs (q + 128) = (20, 4) := by decide +kernel
  exact key q h.1 h.2
theorem zko_5_8 {q : Nat} (h : zk 333 q (5, 0)) : zk 333 (q + 129) (8, 0) := by
  have key : ∀ q, q < 333 → zs q = (5, 0) → q + 129 < 333 ∧ zs (q + 129) = (8, 0) := by decide +kernel
  exact key q h.1 h.2
theorem zko_5_9 {q : Nat} (h : zk 333 q (5, 0)) : zk 333 (q + 131) (8, 0) := by
  have key : ∀ q, q < 333 → zs q = (5, 0) → q + 131 < 333 ∧ zs (q + 131) = (8, 0) := by decide +kernel
  exact key q h.1 h.2
theorem zko_5_10 {q : Nat} (h : zk 333 q (5, 0)) : zk 333 (q + 133) (8, 0) := by
  have key : ∀ q, q < 333 → zs q = (5, 0) → q + 133 < 333 ∧ zs (q + 133) = (8, 0) := by decide +kernel
  exact key q h.1 h.2
theorem zko_7_0 {q : Nat} (h : zk 333 q (7, 0)) : zk 333 (q + 1) (20, 24) := by
  have key : ∀ q, q < 333 → zs q = (7, 0) → q + 1 < 333 ∧ zs (q + 1) = (20, 24) := by decide +kernel
  exact key q h.1 h.2
theorem zko_7_1 {q : Nat} (h : zk 333 q (7, 0)) : zk 333 (q + 2) (20, 24) := by
  have key : ∀ q, q < 333 → zs q = (7, 0) → q + 2 < 333 ∧ zs (q + 2) = (20, 24) := by decide +kernel
  exact key q h.1 h.2
theorem zko_7_2 {q : Nat} (h : zk 333 q (7, 0)) : zk 333 (q + 3) (20, 24) := by
  have key : ∀ q, q < 333 → zs q = (7, 0) → q + 3 < 333 ∧ zs (q + 3) = (20, 24) := by decide +kernel
  exact key q h.1 h.2
theorem zko_7_4 {q : Nat} (h : zk 333 q (7, 0)) : zk 333 (q + 4) (20, 300) := by
  have key : ∀ q, q < 333 → zs q = (7, 0) → q + 4 < 333 ∧ zs (q + 4) = (20, 300) := by decide +kernel
  exact key q h.1 h.2
theorem zko_7_6 {q : Nat} (h : zk 333 q (7, 0)) : zk 333 (q + 5) (20, 2) := by
  have key : ∀ q, q < 333 → zs q = (7, 0) → q + 5 < 333 ∧ zs (q + 5) = (20, 2) := by decide +kernel
  exact key q h.1 h.2
theorem zko_7_7 {q : Nat} (h : zk 333 q (7, 0)) : zk 333 (q + 6) (20, 2) := by
  have key : ∀ q, q < 333 → zs q = (7, 0) → q + 6 < 333 ∧ zs (q + 6) = (20, 2) := by decide +kernel
  exact key q h.1 h.2
theorem zko_8_0 {q : Nat} (h : zk 333 q (8, 0)) : zk 333 (q + 1) (20, tl q) := by
  have key : ∀ q, q < 333 → zs q = (8, 0) → q + 1 < 333 ∧ zs (q + 1) = (20, tl q) := by decide +kernel
  exact key q h.1 h.2
end
section
-- jdk.internal.util.Preconditions.checkIndex, java.lang.String.checkIndex: by hand
theorem dJ3_checkIndex_8e157_0 : decode cJ3_checkIndex_8e157 0 = .ok (.iload_n 0, 1) := by decide +kernel
theorem dJ3_checkIndex_8e157_1 : decode cJ3_checkIndex_8e157 1 = .ok (.ifCond .lt 8, 3) := by decide +kernel
theorem dJ3_checkIndex_8e157_4 : decode cJ3_checkIndex_8e157 4 = .ok (.iload_n 0, 1) := by decide +kernel
theorem dJ3_checkIndex_8e157_5 : decode cJ3_checkIndex_8e157 5 = .ok (.iload_n 1, 1) := by decide +kernel
theorem dJ3_checkIndex_8e157_6 : decode cJ3_checkIndex_8e157 6 = .ok (.if_icmp .lt 10, 3) := by decide +kernel
theorem dJ3_checkIndex_8e157_9 : decode cJ3_checkIndex_8e157 9 = .ok (.aload_n 2, 1) := by decide +kernel
theorem dJ3_checkIndex_8e157_10 : decode cJ3_checkIndex_8e157 10 = .ok (.iload_n 0, 1) := by decide +kernel
theorem dJ3_checkIndex_8e157_11 : decode cJ3_checkIndex_8e157 11 = .ok (.iload_n 1, 1) := by decide +kernel
theorem dJ3_checkIndex_8e157_12 : decode cJ3_checkIndex_8e157 12 = .ok (.invokestatic 95, 3) := by decide +kernel
theorem dJ3_checkIndex_8e157_15 : decode cJ3_checkIndex_8e157 15 = .ok (.athrow, 1) := by decide +kernel
theorem dJ3_checkIndex_8e157_16 : decode cJ3_checkIndex_8e157 16 = .ok (.iload_n 0, 1) := by decide +kernel
theorem dJ3_checkIndex_8e157_17 : decode cJ3_checkIndex_8e157 17 = .ok (.ireturn, 1) := by decide +kernel
theorem dJ0_checkIndex_df160_0 : decode cJ0_checkIndex_df160 0 = .ok (.iload_n 0, 1) := by decide +kernel
theorem dJ0_checkIndex_df160_1 : decode cJ0_checkIndex_df160 1 = .ok (.iload_n 1, 1) := by decide +kernel
theorem dJ0_checkIndex_df160_2 : decode cJ0_checkIndex_df160 2 = .ok (.getstatic 1053, 3) := by decide +kernel
theorem dJ0_checkIndex_df160_5 : decode cJ0_checkIndex_df160 5 = .ok (.invokestatic 1059, 3) := by decide +kernel
theorem dJ0_checkIndex_df160_8 : decode cJ0_checkIndex_df160 8 = .ok (.pop, 1) := by decide +kernel
theorem dJ0_checkIndex_df160_9 : decode cJ0_checkIndex_df160 9 = .ok (.return_, 1) := by decide +kernel
theorem t_Jp_checkIndex {g : GG} {d : Nat} {μ : Mm} {x0 x1 : Int32} {v : Value} (h0 : ¬ x0 < 0) (h1 : x0 < x1) : Z g d (0, 0) mJ3_checkIndex_8e157 333 0 0 0 [(0, .int x0), (1, .int x1), (2, v)] [] μ (zF g (some (.int x0), μ)) := by
  refine z_iload_n dJ3_checkIndex_8e157_0 0 rfl ?_
  refine z_if_lt 9 dJ3_checkIndex_8e157_1 rfl (fun h => absurd h h0) (fun _ => ?_)
  refine z_iload_n dJ3_checkIndex_8e157_4 0 rfl ?_
  refine z_iload_n dJ3_checkIndex_8e157_5 1 rfl ?_
  refine z_icmp_lt 16 dJ3_checkIndex_8e157_6 rfl (fun _ => ?_) (fun h => absurd h1 h)
  refine z_iload_n dJ3_checkIndex_8e157_16 0 rfl ?_
  exact z_iret dJ3_checkIndex_8e157_17 rfl
theorem ct_Jp_checkIndex {g : GG} {d : Nat} {μ : Mm} {x0 x1 : Int32} {v : Value} (hv : v = .null ∨ v = .ref 1006) (h0 : ¬ x0 < 0) (h1 : x0 < x1) : Ct g d mJ3_checkIndex_8e157 [.int x0, .int x1, v] μ (some (.int x0), μ) := by
  rcases hv with rfl | rfl
  · exact y_entry in_J3_checkIndex_8e157 (Nat.le_of_ble_eq_true rfl) rfl (t_Jp_checkIndex h0 h1)
  · exact y_entry in_J3_checkIndex_8e157 (Nat.le_of_ble_eq_true rfl) rfl (t_Jp_checkIndex h0 h1)
def Js_checkIndex (x0 x1 : Int32) : Option Unit := if x0 < 0 then none else if x0 < x1 then some () else none
theorem ct_Js_checkIndex {g : GG} {d : Nat} {x0 x1 : Int32} {μ : Mm} {r : Unit} (hd0 : 2 ≤ d) (h : Js_checkIndex x0 x1 = some r) : Ct g d mJ0_checkIndex_df160 [.int x0, .int x1] μ (none, μ) := by
  obtain ⟨h0, h⟩ := oifn h
  have h1 : x0 < x1 := by
    rcases Decidable.em (x0 < x1) with q | q
    · exact q
    · rw [if_neg q] at h; cases h
  refine y_entry in_J0_checkIndex_df160 (Nat.le_of_ble_eq_true rfl) rfl ?_
  refine z_iload_n dJ0_checkIndex_df160_0 0 rfl ?_
  refine z_iload_n dJ0_checkIndex_df160_1 1 rfl ?_
  refine y_fmt dJ0_checkIndex_df160_2 fmt_w (fun v hv => ?_)
  refine y_Si (d2 := d - 1) (As := [.int x0, .int x1, v]) (st := []) dJ0_checkIndex_df160_5 mlRJ0_1059 cv_J3_checkIndex_8e157 (ct_Jp_checkIndex hv h0 h1) (by omega) rfl rfl (Nat.le_of_ble_eq_true rfl) ?_
  refine z_pop dJ0_checkIndex_df160_8 rfl ?_
  exact z_vret dJ0_checkIndex_df160_9 rfl

-- java/lang/String.coder()B
theorem dJ0_coder_7d493_0 : decode cJ0_coder_7d493 0 = .ok (.getstatic 38, 3) := by decide +kernel
theorem dJ0_coder_7d493_3 : decode cJ0_coder_7d493 3 = .ok (.ifCond .eq 10, 3) := by decide +kernel
theorem dJ0_coder_7d493_6 : decode cJ0_coder_7d493 6 = .ok (.aload_n 0, 1) := by decide +kernel
theorem dJ0_coder_7d493_7 : decode cJ0_coder_7d493 7 = .ok (.getfield 15, 3) := by decide +kernel
theorem dJ0_coder_7d493_10 : decode cJ0_coder_7d493 10 = .ok (.goto 4, 3) := by decide +kernel
theorem dJ0_coder_7d493_13 : decode cJ0_coder_7d493 13 = .ok (.iconst 1, 1) := by decide +kernel
theorem dJ0_coder_7d493_14 : decode cJ0_coder_7d493 14 = .ok (.ireturn, 1) := by decide +kernel
def Js_coder (x0 : Nat) : Option Int32 :=
  (if (1 : Int32) = 0 then
    some (1 : Int32)
  else
    some (0 : Int32))
set_option maxRecDepth 100000 in
set_option maxHeartbeats 4000000 in
theorem t_Js_coder {g : GG} {d : Nat} {μ : Mm} (hd0 : 1 ≤ d) : ∀ (x0 : Nat) (r : Int32), x0 < 2 → Js_coder x0 = some r → Z g d (0, 0) mJ0_coder_7d493 333 0 0 0 [(0, .ref (1002 + x0))] [] μ (zF g (some (.int r), μ)) := by
  intro x0 r hq0 h
  unfold Js_coder at h
  refine y_compact dJ0_coder_7d493_0 cpt_w ?_
  refine z_if_eq 13 dJ0_coder_7d493_3 rfl (fun hc1 => ?_) (fun hc1 => ?_)
  · replace h := oT hc1 h
    refine z_iconst (M := mJ0_coder_7d493) (v := 1) dJ0_coder_7d493_13 rfl ?_
    cases h
    exact z_zret dJ0_coder_7d493_14 rfl rfl
  · replace h := oF hc1 h
    refine z_aload_n dJ0_coder_7d493_6 0 rfl ?_
    refine y_scod dJ0_coder_7d493_7 cod_w hq0 ?_
    refine z_goto 14 dJ0_coder_7d493_10 rfl ?_
    cases h
    exact z_zret dJ0_coder_7d493_14 rfl rfl
theorem ct_Js_coder {g : GG} {d : Nat} {x0 : Nat} {μ : Mm} {r : Int32} (hd0 : 1 ≤ d) (hq0 : x0 < 2) (h : Js_coder x0 = some r) : Ct g d mJ0_coder_7d493 [.ref (1002 + x0)] μ (some (.int r), μ) := y_entry in_J0_coder_7d493 (Nat.le_of_ble_eq_true rfl) rfl (t_Js_coder hd0 x0 r hq0 h)
-- java/lang/String.length()I
theorem dJ0_length_8abf5_0 : decode cJ0_length_8abf5 0 = .ok (.aload_n 0, 1) := by decide +kernel
theorem dJ0_length_8abf5_1 : decode cJ0_length_8abf5 1 = .ok (.getfield 9, 3) := by decide +kernel
theorem dJ0_length_8abf5_4 : decode cJ0_length_8abf5 4 = .ok (.arraylength, 1) := by decide +kernel
theorem dJ0_length_8abf5_5 : decode cJ0_length_8abf5 5 = .ok (.aload_n 0, 1) := by decide +kernel
theorem dJ0_length_8abf5_6 : decode cJ0_length_8abf5 6 = .ok (.invokevirtual 335, 3) := by decide +kernel
theorem dJ0_length_8abf5_9 : decode cJ0_length_8abf5 9 = .ok (.ishr, 1) := by decide +kernel
theorem dJ0_length_8abf5_10 : decode cJ0_length_8abf5 10 = .ok (.ireturn, 1) := by decide +kernel
def Js_length (x0 : Nat) : Option Int32 :=
  (Js_coder x0).bind fun v1 =>
  some ((Int32.ofNat (slen x0)) >>> (v1 &&& 31))
set_option maxRecDepth 100000 in
set_option maxHeartbeats 4000000 in
theorem t_Js_length {g : GG} {d : Nat} {μ : Mm} (hd0 : 2 ≤ d) : ∀ (x0 : Nat) (r : Int32), x0 < 2 → Js_length x0 = some r → Z g d (0, 0) mJ0_length_8abf5 333 0 0 0 [(0, .ref (1002 + x0))] [] μ (zF g (some (.int r), μ)) := by
  intro x0 r hq0 h
  unfold Js_length at h
  refine z_aload_n dJ0_length_8abf5_0 0 rfl ?_
  refine y_sval dJ0_length_8abf5_1 val_w hq0 ?_
  refine y_slen dJ0_length_8abf5_4 hq0 ?_
  refine z_aload_n dJ0_length_8abf5_5 0 rfl ?_
  obtain ⟨v1, he1, h⟩ := obind h
  refine y_Wi (M := mJ0_length_8abf5) (Y := mJ0_coder_7d493) (d2 := d - 1) (As := []) (st := [.int (Int32.ofNat (slen x0))]) dJ0_length_8abf5_6 mlRJ0_335 cv_J0_coder_7d493 hq0 (ct_Js_coder (dle (Nat.le_of_ble_eq_true rfl) hd0) hq0 he1) (dps (Nat.le_of_ble_eq_true rfl) hd0) rfl rfl (Nat.le_of_ble_eq_true rfl) ?_
  refine z_ishr dJ0_length_8abf5_9 ?_
  cases h
  exact z_iret dJ0_length_8abf5_10 rfl
theorem ct_Js_length {g : GG} {d : Nat} {x0 : Nat} {μ : Mm} {r : Int32} (hd0 : 2 ≤ d) (hq0 : x0 < 2) (h : Js_length x0 = some r) : Ct g d mJ0_length_8abf5 [.ref (1002 + x0)] μ (some (.int r), μ) := y_entry in_J0_length_8abf5 (Nat.le_of_ble_eq_true rfl) rfl (t_Js_length hd0 x0 r hq0 h)
-- java/lang/String.isLatin1()Z
theorem dJ0_isLatin1_aae02_0 : decode cJ0_isLatin1_aae02 0 = .ok (.getstatic 38, 3) := by decide +kernel
theorem dJ0_isLatin1_aae02_3 : decode cJ0_isLatin1_aae02 3 = .ok (.ifCond .eq 14, 3) := by decide +kernel
theorem dJ0_isLatin1_aae02_6 : decode cJ0_isLatin1_aae02 6 = .ok (.aload_n 0, 1) := by decide +kernel
theorem dJ0_isLatin1_aae02_7 : decode cJ0_isLatin1_aae02 7 = .ok (.getfield 15, 3) := by decide +kernel
theorem dJ0_isLatin1_aae02_10 : decode cJ0_isLatin1_aae02 10 = .ok (.ifCond .ne 7, 3) := by decide +kernel
theorem dJ0_isLatin1_aae02_13 : decode cJ0_isLatin1_aae02 13 = .ok (.iconst 1, 1) := by decide +kernel
theorem dJ0_isLatin1_aae02_14 : decode cJ0_isLatin1_aae02 14 = .ok (.goto 4, 3) := by decide +kernel
theorem dJ0_isLatin1_aae02_17 : decode cJ0_isLatin1_aae02 17 = .ok (.iconst 0, 1) := by decide +kernel
theorem dJ0_isLatin1_aae02_18 : decode cJ0_isLatin1_aae02 18 = .ok (.ireturn, 1) := by decide +kernel
def Js_isLatin1 (x0 : Nat) : Option Bool :=
  (if (1 : Int32) = 0 then
    some false
  else
    (if ¬ (0 : Int32) = 0 then
      some false
    else
      some true))
set_option maxRecDepth 100000 in
set_option maxHeartbeats 4000000 in
theorem t_Js_isLatin1 {g : GG} {d : Nat} {μ : Mm} (hd0 : 1 ≤ d) : ∀ (x0 : Nat) (r : Bool), x0 < 2 → Js_isLatin1 x0 = some r → Z g d (0, 0) mJ0_isLatin1_aae02 333 0 0 0 [(0, .ref (1002 + x0))] [] μ (zF g (some (.int (b2i r)), μ)) := by
  intro x0 r hq0 h
  unfold Js_isLatin1 at h
  refine y_compact dJ0_isLatin1_aae02_0 cpt_w ?_
  refine z_if_eq 17 dJ0_isLatin1_aae02_3 rfl (fun hc1 => ?_) (fun hc1 => ?_)
  · replace h := oT hc1 h
    refine z_iconst (M := mJ0_isLatin1_aae02) (v := 0) dJ0_isLatin1_aae02_17 rfl ?_
    cases h
    exact z_zret dJ0_isLatin1_aae02_18 rfl rfl
  · replace h := oF hc1 h
    refine z_aload_n dJ0_isLatin1_aae02_6 0 rfl ?_
    refine y_scod dJ0_isLatin1_aae02_7 cod_w hq0 ?_
    refine z_if_ne 17 dJ0_isLatin1_aae02_10 rfl (fun hc2 => ?_) (fun hc2 => ?_)
    · replace h := oT hc2 h
      refine z_iconst (M := mJ0_isLatin1_aae02) (v := 0) dJ0_isLatin1_aae02_17 rfl ?_
      cases h
      exact z_zret dJ0_isLatin1_aae02_18 rfl rfl
    · replace h := oFn hc2 h
      refine z_iconst (M := mJ0_isLatin1_aae02) (v := 1) dJ0_isLatin1_aae02_13 rfl ?_
      refine z_goto 18 dJ0_isLatin1_aae02_14 rfl ?_
      cases h
      exact z_zret dJ0_isLatin1_aae02_18 rfl rfl
theorem ct_Js_isLatin1 {g : GG} {d : Nat} {x0 : Nat} {μ : Mm} {r : Bool} (hd0 : 1 ≤ d) (hq0 : x0 < 2) (h : Js_isLatin1 x0 = some r) : Ct g d mJ0_isLatin1_aae02 [.ref (1002 + x0)] μ (some (.int (b2i r)), μ) := y_entry in_J0_isLatin1_aae02 (Nat.le_of_ble_eq_true rfl) rfl (t_Js_isLatin1 hd0 x0 r hq0 h)
-- java/lang/StringLatin1.charAt([BI)C
theorem dJ1_charAt_3b067_0 : decode cJ1_charAt_3b067 0 = .ok (.iload_n 1, 1) := by decide +kernel
theorem dJ1_charAt_3b067_1 : decode cJ1_charAt_3b067 1 = .ok (.aload_n 0, 1) := by decide +kernel
theorem dJ1_charAt_3b067_2 : decode cJ1_charAt_3b067 2 = .ok (.arraylength, 1) := by decide +kernel
theorem dJ1_charAt_3b067_3 : decode cJ1_charAt_3b067 3 = .ok (.invokestatic 9, 3) := by decide +kernel
theorem dJ1_charAt_3b067_6 : decode cJ1_charAt_3b067 6 = .ok (.aload_n 0, 1) := by decide +kernel
theorem dJ1_charAt_3b067_7 : decode cJ1_charAt_3b067 7 = .ok (.iload_n 1, 1) := by decide +kernel
theorem dJ1_charAt_3b067_8 : decode cJ1_charAt_3b067 8 = .ok (.baload, 1) := by decide +kernel
theorem dJ1_charAt_3b067_9 : decode cJ1_charAt_3b067 9 = .ok (.sipush 255, 3) := by decide +kernel
theorem dJ1_charAt_3b067_12 : decode cJ1_charAt_3b067 12 = .ok (.iand, 1) := by decide +kernel
theorem dJ1_charAt_3b067_13 : decode cJ1_charAt_3b067 13 = .ok (.i2c, 1) := by decide +kernel
theorem dJ1_charAt_3b067_14 : decode cJ1_charAt_3b067 14 = .ok (.ireturn, 1) := by decide +kernel
def Jl_charAt (x0 : Nat) (x1 : Int32) : Option Int32 :=
  (Js_checkIndex x1 (Int32.ofNat (slen x0))).bind fun v1 =>
  if inb x1 (slen x0) then
  some (((sbyt x0 x1.toNatClampNeg) &&& (255 : Int32)).toUInt32 % 65536).toInt32
  else none
set_option maxRecDepth 100000 in
set_option maxHeartbeats 4000000 in
theorem t_Jl_charAt {g : GG} {d : Nat} {μ : Mm} (hd0 : 4 ≤ d) : ∀ (x0 : Nat) (x1 : Int32) (r : Int32), x0 < 2 → Jl_charAt x0 x1 = some r → Z g d (0, 0) mJ1_charAt_3b067 333 0 0 0 [(0, .ref (1004 + x0)), (1, .int x1)] [] μ (zF g (some (.int r), μ)) := by
  intro x0 x1 r hq0 h
  unfold Jl_charAt at h
  refine z_iload_n dJ1_charAt_3b067_0 1 rfl ?_
  refine z_aload_n dJ1_charAt_3b067_1 0 rfl ?_
  refine y_slen dJ1_charAt_3b067_2 hq0 ?_
  obtain ⟨v1, he1, h⟩ := obind h
  refine y_Sv (M := mJ1_charAt_3b067) (Y := mJ0_checkIndex_df160) (d2 := d - 1) (As := [.int x1, .int (Int32.ofNat (slen x0))]) (st := []) dJ1_charAt_3b067_3 mlRJ1_9 cv_J0_checkIndex_df160 (ct_Js_checkIndex (dle (Nat.le_of_ble_eq_true rfl) hd0) he1) (dps (Nat.le_of_ble_eq_true rfl) hd0) rfl rfl (Nat.le_of_ble_eq_true rfl) ?_
  refine z_aload_n dJ1_charAt_3b067_6 0 rfl ?_
  refine z_iload_n dJ1_charAt_3b067_7 1 rfl ?_
  obtain ⟨hi2, h⟩ := oif h
  refine y_sbyt dJ1_charAt_3b067_8 hq0 hi2 ?_
  refine z_sipush (M := mJ1_charAt_3b067) (v := 255) dJ1_charAt_3b067_9 rfl ?_
  refine z_iand dJ1_charAt_3b067_12 ?_
  refine z_i2c dJ1_charAt_3b067_13 ?_
  cases h
  exact z_zret dJ1_charAt_3b067_14 rfl (pk_nc _)
theorem ct_Jl_charAt {g : GG} {d : Nat} {x0 : Nat} {x1 : Int32} {μ : Mm} {r : Int32} (hd0 : 4 ≤ d) (hq0 : x0 < 2) (h : Jl_charAt x0 x1 = some r) : Ct g d mJ1_charAt_3b067 [.ref (1004 + x0), .int x1] μ (some (.int r), μ) := y_entry in_J1_charAt_3b067 (Nat.le_of_ble_eq_true rfl) rfl (t_Jl_charAt hd0 x0 x1 r hq0 h)
-- java/lang/String.charAt(I)C
theorem dJ0_charAt_5068e_0 : decode cJ0_charAt_5068e 0 = .ok (.aload_n 0, 1) := by decide +kernel
theorem dJ0_charAt_5068e_1 : decode cJ0_charAt_5068e 1 = .ok (.invokevirtual 492, 3) := by decide +kernel
theorem dJ0_charAt_5068e_4 : decode cJ0_charAt_5068e 4 = .ok (.ifCond .eq 12, 3) := by decide +kernel
theorem dJ0_charAt_5068e_7 : decode cJ0_charAt_5068e 7 = .ok (.aload_n 0, 1) := by decide +kernel
theorem dJ0_charAt_5068e_8 : decode cJ0_charAt_5068e 8 = .ok (.getfield 9, 3) := by decide +kernel
theorem dJ0_charAt_5068e_11 : decode cJ0_charAt_5068e 11 = .ok (.iload_n 1, 1) := by decide +kernel
theorem dJ0_charAt_5068e_12 : decode cJ0_charAt_5068e 12 = .ok (.invokestatic 495, 3) := by decide +kernel
theorem dJ0_charAt_5068e_15 : decode cJ0_charAt_5068e 15 = .ok (.ireturn, 1) := by decide +kernel
theorem dJ0_charAt_5068e_16 : decode cJ0_charAt_5068e 16 = .ok (.aload_n 0, 1) := by decide +kernel
theorem dJ0_charAt_5068e_17 : decode cJ0_charAt_5068e 17 = .ok (.getfield 9, 3) := by decide +kernel
theorem dJ0_charAt_5068e_20 : decode cJ0_charAt_5068e 20 = .ok (.iload_n 1, 1) := by decide +kernel
theorem dJ0_charAt_5068e_21 : decode cJ0_charAt_5068e 21 = .ok (.invokestatic 498, 3) := by decide +kernel
theorem dJ0_charAt_5068e_24 : decode cJ0_charAt_5068e 24 = .ok (.ireturn, 1) := by decide +kernel
def Js_charAt (x0 : Nat) (x1 : Int32) : Option Int32 :=
  (Js_isLatin1 x0).bind fun v1 =>
  (if (b2i v1) = 0 then
    none
  else
    (Jl_charAt x0 x1).bind fun v3 =>
    if zch v3 then
    some v3
    else none)
set_option maxRecDepth 100000 in
set_option maxHeartbeats 4000000 in
theorem t_Js_charAt {g : GG} {d : Nat} {μ : Mm} (hd0 : 5 ≤ d) : ∀ (x0 : Nat) (x1 : Int32) (r : Int32), x0 < 2 → Js_charAt x0 x1 = some r → Z g d (0, 0) mJ0_charAt_5068e 333 0 0 0 [(0, .ref (1002 + x0)), (1, .int x1)] [] μ (zF g (some (.int r), μ)) := by
  intro x0 x1 r hq0 h
  unfold Js_charAt at h
  refine z_aload_n dJ0_charAt_5068e_0 0 rfl ?_
  obtain ⟨v1, he1, h⟩ := obind h
  refine y_Wi (M := mJ0_charAt_5068e) (Y := mJ0_isLatin1_aae02) (d2 := d - 1) (As := []) (st := []) dJ0_charAt_5068e_1 mlRJ0_492 cv_J0_isLatin1_aae02 hq0 (ct_Js_isLatin1 (dle (Nat.le_of_ble_eq_true rfl) hd0) hq0 he1) (dps (Nat.le_of_ble_eq_true rfl) hd0) rfl rfl (Nat.le_of_ble_eq_true rfl) ?_
  refine z_if_eq 16 dJ0_charAt_5068e_4 rfl (fun hc2 => ?_) (fun hc2 => ?_)
  · replace h := oT hc2 h
    refine z_aload_n dJ0_charAt_5068e_16 0 rfl ?_
    refine y_sval dJ0_charAt_5068e_17 val_w hq0 ?_
    refine z_iload_n dJ0_charAt_5068e_20 1 rfl ?_
    cases h
  · replace h := oF hc2 h
    refine z_aload_n dJ0_charAt_5068e_7 0 rfl ?_
    refine y_sval dJ0_charAt_5068e_8 val_w hq0 ?_
    refine z_iload_n dJ0_charAt_5068e_11 1 rfl ?_
    obtain ⟨v3, he3, h⟩ := obind h
    refine y_Si (M := mJ0_charAt_5068e) (Y := mJ1_charAt_3b067) (d2 := d - 1) (As := [.ref (1004 + x0), .int x1]) (st := []) dJ0_charAt_5068e_12 mlRJ0_495 cv_J1_charAt_3b067 (ct_Jl_charAt (dle (Nat.le_of_ble_eq_true rfl) hd0) hq0 he3) (dps (Nat.le_of_ble_eq_true rfl) hd0) rfl rfl (Nat.le_of_ble_eq_true rfl) ?_
    obtain ⟨hy4, h⟩ := oif h
    cases h
    exact z_zret dJ0_charAt_5068e_15 rfl (zch_nar hy4)
theorem ct_Js_charAt {g : GG} {d : Nat} {x0 : Nat} {x1 : Int32} {μ : Mm} {r : Int32} (hd0 : 5 ≤ d) (hq0 : x0 < 2) (h : Js_charAt x0 x1 = some r) : Ct g d mJ0_charAt_5068e [.ref (1002 + x0), .int x1] μ (some (.int r), μ) := y_entry in_J0_charAt_5068e (Nat.le_of_ble_eq_true rfl) rfl (t_Js_charAt hd0 x0 x1 r hq0 h)
-- java/lang/StringLatin1.canEncode(I)Z
theorem dJ1_canEncode_9a6ad_0 : decode cJ1_canEncode_9a6ad 0 = .ok (.iload_n 0, 1) := by decide +kernel
theorem dJ1_canEncode_9a6ad_1 : decode cJ1_canEncode_9a6ad 1 = .ok (.ifCond .lt 14, 3) := by decide +kernel
theorem dJ1_canEncode_9a6ad_4 : decode cJ1_canEncode_9a6ad 4 = .ok (.iload_n 0, 1) := by decide +kernel
theorem dJ1_canEncode_9a6ad_5 : decode cJ1_canEncode_9a6ad 5 = .ok (.sipush 255, 3) := by decide +kernel
theorem dJ1_canEncode_9a6ad_8 : decode cJ1_canEncode_9a6ad 8 = .ok (.if_icmp .gt 7, 3) := by decide +kernel
theorem dJ1_canEncode_9a6ad_11 : decode cJ1_canEncode_9a6ad 11 = .ok (.iconst 1, 1) := by decide +kernel
theorem dJ1_canEncode_9a6ad_12 : decode cJ1_canEncode_9a6ad 12 = .ok (.goto 4, 3) := by decide +kernel
theorem dJ1_canEncode_9a6ad_15 : decode cJ1_canEncode_9a6ad 15 = .ok (.iconst 0, 1) := by decide +kernel
theorem dJ1_canEncode_9a6ad_16 : decode cJ1_canEncode_9a6ad 16 = .ok (.ireturn, 1) := by decide +kernel
def Jl_canEncode (x0 : Int32) : Option Bool :=
  (if x0 < 0 then
    some false
  else
    (if (255 : Int32) < x0 then
      some false
    else
      some true))
set_option maxRecDepth 100000 in
set_option maxHeartbeats 4000000 in
theorem t_Jl_canEncode {g : GG} {d : Nat} {μ : Mm} (hd0 : 1 ≤ d) : ∀ (x0 : Int32) (r : Bool), Jl_canEncode x0 = some r → Z g d (0, 0) mJ1_canEncode_9a6ad 333 0 0 0 [(0, .int x0)] [] μ (zF g (some (.int (b2i r)), μ)) := by
  intro x0 r h
  unfold Jl_canEncode at h
  refine z_iload_n dJ1_canEncode_9a6ad_0 0 rfl ?_
  refine z_if_lt 15 dJ1_canEncode_9a6ad_1 rfl (fun hc1 => ?_) (fun hc1 => ?_)
  · replace h := oT hc1 h
    refine z_iconst (M := mJ1_canEncode_9a6ad) (v := 0) dJ1_canEncode_9a6ad_15 rfl ?_
    cases h
    exact z_zret dJ1_canEncode_9a6ad_16 rfl rfl
  · replace h := oF hc1 h
    refine z_iload_n dJ1_canEncode_9a6ad_4 0 rfl ?_
    refine z_sipush (M := mJ1_canEncode_9a6ad) (v := 255) dJ1_canEncode_9a6ad_5 rfl ?_
    refine z_icmp_gt 15 dJ1_canEncode_9a6ad_8 rfl (fun hc2 => ?_) (fun hc2 => ?_)
    · replace h := oT hc2 h
      refine z_iconst (M := mJ1_canEncode_9a6ad) (v := 0) dJ1_canEncode_9a6ad_15 rfl ?_
      cases h
      exact z_zret dJ1_canEncode_9a6ad_16 rfl rfl
    · replace h := oF hc2 h
      refine z_iconst (M := mJ1_canEncode_9a6ad) (v := 1) dJ1_canEncode_9a6ad_11 rfl ?_
      refine z_goto 16 dJ1_canEncode_9a6ad_12 rfl ?_
      cases h
      exact z_zret dJ1_canEncode_9a6ad_16 rfl rfl
theorem ct_Jl_canEncode {g : GG} {d : Nat} {x0 : Int32} {μ : Mm} {r : Bool} (hd0 : 1 ≤ d)  (h : Jl_canEncode x0 = some r) : Ct g d mJ1_canEncode_9a6ad [.int x0] μ (some (.int (b2i r)), μ) := y_entry in_J1_canEncode_9a6ad (Nat.le_of_ble_eq_true rfl) rfl (t_Jl_canEncode hd0 x0 r h)
-- java/lang/StringLatin1.indexOfChar([BIII)I
theorem dJ1_indexOfChar_4cfef_0 : decode cJ1_indexOfChar_4cfef 0 = .ok (.iload_n 1, 1) := by decide +kernel
theorem dJ1_indexOfChar_4cfef_1 : decode cJ1_indexOfChar_4cfef 1 = .ok (.i2b, 1) := by decide +kernel
theorem dJ1_indexOfChar_4cfef_2 : decode cJ1_indexOfChar_4cfef 2 = .ok (.istore 4, 2) := by decide +kernel
theorem dJ1_indexOfChar_4cfef_4 : decode cJ1_indexOfChar_4cfef 4 = .ok (.iload_n 2, 1) := by decide +kernel
theorem dJ1_indexOfChar_4cfef_5 : decode cJ1_indexOfChar_4cfef 5 = .ok (.istore 5, 2) := by decide +kernel
theorem dJ1_indexOfChar_4cfef_7 : decode cJ1_indexOfChar_4cfef 7 = .ok (.iload 5, 2) := by decide +kernel
theorem dJ1_indexOfChar_4cfef_9 : decode cJ1_indexOfChar_4cfef 9 = .ok (.iload_n 3, 1) := by decide +kernel
theorem dJ1_indexOfChar_4cfef_10 : decode cJ1_indexOfChar_4cfef 10 = .ok (.if_icmp .ge 21, 3) := by decide +kernel
theorem dJ1_indexOfChar_4cfef_13 : decode cJ1_indexOfChar_4cfef 13 = .ok (.aload_n 0, 1) := by decide +kernel
theorem dJ1_indexOfChar_4cfef_14 : decode cJ1_indexOfChar_4cfef 14 = .ok (.iload 5, 2) := by decide +kernel
theorem dJ1_indexOfChar_4cfef_16 : decode cJ1_indexOfChar_4cfef 16 = .ok (.baload, 1) := by decide +kernel
theorem dJ1_indexOfChar_4cfef_17 : decode cJ1_indexOfChar_4cfef 17 = .ok (.iload 4, 2) := by decide +kernel
theorem dJ1_indexOfChar_4cfef_19 : decode cJ1_indexOfChar_4cfef 19 = .ok (.if_icmp .ne 6, 3) := by decide +kernel
theorem dJ1_indexOfChar_4cfef_22 : decode cJ1_indexOfChar_4cfef 22 = .ok (.iload 5, 2) := by decide +kernel
theorem dJ1_indexOfChar_4cfef_24 : decode cJ1_indexOfChar_4cfef 24 = .ok (.ireturn, 1) := by decide +kernel
theorem dJ1_indexOfChar_4cfef_25 : decode cJ1_indexOfChar_4cfef 25 = .ok (.iinc 5 1, 3) := by decide +kernel
theorem dJ1_indexOfChar_4cfef_28 : decode cJ1_indexOfChar_4cfef 28 = .ok (.goto (-21), 3) := by decide +kernel
theorem dJ1_indexOfChar_4cfef_31 : decode cJ1_indexOfChar_4cfef 31 = .ok (.iconst (-1), 1) := by decide +kernel
theorem dJ1_indexOfChar_4cfef_32 : decode cJ1_indexOfChar_4cfef 32 = .ok (.ireturn, 1) := by decide +kernel
def Jl_indexOfChar_7 : Nat → Nat → Int32 → Int32 → Int32 → Option Int32
  | 0, _, _, _, _ => none
  | f + 1, x0, x3, x4, x5 =>
    (if x3 ≤ x5 then
      some (-1 : Int32)
    else
      if inb x5 (slen x0) then
      (if ¬ (sbyt x0 x5.toNatClampNeg) = x4 then
        (Jl_indexOfChar_7 f) x0 x3 x4 (x5 + (1 : Int32))
      else
        some x5)
      else none)
set_option maxRecDepth 100000 in
set_option maxHeartbeats 4000000 in
theorem t_Jl_indexOfChar_7 {g : GG} {d : Nat} {μ : Mm} (hd0 : 1 ≤ d) : ∀ (f : Nat), ∀ (x0 : Nat) (x3 : Int32) (x4 : Int32) (x5 : Int32) (r : Int32), x0 < 2 → Jl_indexOfChar_7 f x0 x3 x4 x5 = some r → Z g d (0, 0) mJ1_indexOfChar_4cfef 333 0 0 7 [(0, .ref (1004 + x0)), (3, .int x3), (4, .int x4), (5, .int x5)] [] μ (zF g (some (.int r), μ)) := by
  intro f
  induction f with
  | zero =>
    intro x0 x3 x4 x5 r hq0 h
    cases h
  | succ f ih =>
    intro x0 x3 x4 x5 r hq0 h
    rw [Jl_indexOfChar_7] at h
    refine z_iload dJ1_indexOfChar_4cfef_7 3 rfl ?_
    refine z_iload_n dJ1_indexOfChar_4cfef_9 1 rfl ?_
    refine z_icmp_ge 31 dJ1_indexOfChar_4cfef_10 rfl (fun hc1 => ?_) (fun hc1 => ?_)
    · replace h := oT hc1 h
      refine z_iconst (M := mJ1_indexOfChar_4cfef) (v := -1) dJ1_indexOfChar_4cfef_31 rfl ?_
      cases h
      exact z_iret dJ1_indexOfChar_4cfef_32 rfl
    · replace h := oF hc1 h
      refine z_aload_n dJ1_indexOfChar_4cfef_13 0 rfl ?_
      refine z_iload dJ1_indexOfChar_4cfef_14 3 rfl ?_
      obtain ⟨hi2, h⟩ := oif h
      refine y_sbyt dJ1_indexOfChar_4cfef_16 hq0 hi2 ?_
      refine z_iload dJ1_indexOfChar_4cfef_17 2 rfl ?_
      refine z_icmp_ne 25 dJ1_indexOfChar_4cfef_19 rfl (fun hc3 => ?_) (fun hc3 => ?_)
      · replace h := oT hc3 h
        refine z_iinc (M := mJ1_indexOfChar_4cfef) (v := (x5 + (1 : Int32))) (lv2 := [(5, .int (x5 + (1 : Int32))), (0, .ref (1004 + x0)), (3, .int x3), (4, .int x4)]) dJ1_indexOfChar_4cfef_25 3 rfl rfl (Nat.le_of_ble_eq_true rfl) rfl ?_
        refine z_goto 7 dJ1_indexOfChar_4cfef_28 rfl ?_
        refine z_lv (lv2 := [(0, .ref (1004 + x0)), (3, .int x3), (4, .int x4), (5, .int (x5 + (1 : Int32)))]) [1, 2, 3, 0] rfl ?_
        exact ih x0 x3 x4 (x5 + (1 : Int32)) _ hq0 h
      · replace h := oFn hc3 h
        refine z_iload dJ1_indexOfChar_4cfef_22 3 rfl ?_
        cases h
        exact z_iret dJ1_indexOfChar_4cfef_24 rfl
def Jl_indexOfChar (x0 : Nat) (x1 : Int32) (x2 : Int32) (x3 : Int32) : Option Int32 :=
  Jl_indexOfChar_7 FU x0 x3 x1.toInt8.toInt32 x2
set_option maxRecDepth 100000 in
set_option maxHeartbeats 4000000 in
theorem t_Jl_indexOfChar {g : GG} {d : Nat} {μ : Mm} (hd0 : 1 ≤ d) : ∀ (x0 : Nat) (x1 : Int32) (x2 : Int32) (x3 : Int32) (r : Int32), x0 < 2 → Jl_indexOfChar x0 x1 x2 x3 = some r → Z g d (0, 0) mJ1_indexOfChar_4cfef 333 0 0 0 [(0, .ref (1004 + x0)), (1, .int x1), (2, .int x2), (3, .int x3)] [] μ (zF g (some (.int r), μ)) := by
  intro x0 x1 x2 x3 r hq0 h
  unfold Jl_indexOfChar at h
  refine z_iload_n dJ1_indexOfChar_4cfef_0 1 rfl ?_
  refine z_i2b dJ1_indexOfChar_4cfef_1 ?_
  refine z_istore (M := mJ1_indexOfChar_4cfef) (lv2 := [(4, .int x1.toInt8.toInt32), (0, .ref (1004 + x0)), (1, .int x1), (2, .int x2), (3, .int x3)]) dJ1_indexOfChar_4cfef_2 (Nat.le_of_ble_eq_true rfl) rfl ?_
  refine z_iload_n dJ1_indexOfChar_4cfef_4 3 rfl ?_
  refine z_istore (M := mJ1_indexOfChar_4cfef) (lv2 := [(5, .int x2), (4, .int x1.toInt8.toInt32), (0, .ref (1004 + x0)), (1, .int x1), (2, .int x2), (3, .int x3)]) dJ1_indexOfChar_4cfef_5 (Nat.le_of_ble_eq_true rfl) rfl ?_
  refine z_lv (lv2 := [(0, .ref (1004 + x0)), (3, .int x3), (4, .int x1.toInt8.toInt32), (5, .int x2)]) [2, 5, 1, 0] rfl ?_
  exact t_Jl_indexOfChar_7 hd0 FU x0 x3 x1.toInt8.toInt32 x2 _ hq0 h
theorem ct_Jl_indexOfChar {g : GG} {d : Nat} {x0 : Nat} {x1 : Int32} {x2 : Int32} {x3 : Int32} {μ : Mm} {r : Int32} (hd0 : 1 ≤ d) (hq0 : x0 < 2) (h : Jl_indexOfChar x0 x1 x2 x3 = some r) : Ct g d mJ1_indexOfChar_4cfef [.ref (1004 + x0), .int x1, .int x2, .int x3] μ (some (.int r), μ) := y_entry in_J1_indexOfChar_4cfef (Nat.le_of_ble_eq_true rfl) rfl (t_Jl_indexOfChar hd0 x0 x1 x2 x3 r hq0 h)
-- java/lang/StringLatin1.indexOf([BIII)I
theorem dJ1_indexOf_4cfef_0 : decode cJ1_indexOf_4cfef 0 = .ok (.iload_n 1, 1) := by decide +kernel
theorem dJ1_indexOf_4cfef_1 : decode cJ1_indexOf_4cfef 1 = .ok (.invokestatic 88, 3) := by decide +kernel
theorem dJ1_indexOf_4cfef_4 : decode cJ1_indexOf_4cfef 4 = .ok (.ifCond .ne 5, 3) := by decide +kernel
theorem dJ1_indexOf_4cfef_7 : decode cJ1_indexOf_4cfef 7 = .ok (.iconst (-1), 1) := by decide +kernel
theorem dJ1_indexOf_4cfef_8 : decode cJ1_indexOf_4cfef 8 = .ok (.ireturn, 1) := by decide +kernel
theorem dJ1_indexOf_4cfef_9 : decode cJ1_indexOf_4cfef 9 = .ok (.iload_n 2, 1) := by decide +kernel
theorem dJ1_indexOf_4cfef_10 : decode cJ1_indexOf_4cfef 10 = .ok (.iconst 0, 1) := by decide +kernel
theorem dJ1_indexOf_4cfef_11 : decode cJ1_indexOf_4cfef 11 = .ok (.invokestatic 92, 3) := by decide +kernel
theorem dJ1_indexOf_4cfef_14 : decode cJ1_indexOf_4cfef 14 = .ok (.istore_n 2, 1) := by decide +kernel
theorem dJ1_indexOf_4cfef_15 : decode cJ1_indexOf_4cfef 15 = .ok (.iload_n 3, 1) := by decide +kernel
theorem dJ1_indexOf_4cfef_16 : decode cJ1_indexOf_4cfef 16 = .ok (.aload_n 0, 1) := by decide +kernel
theorem dJ1_indexOf_4cfef_17 : decode cJ1_indexOf_4cfef 17 = .ok (.arraylength, 1) := by decide +kernel
theorem dJ1_indexOf_4cfef_18 : decode cJ1_indexOf_4cfef 18 = .ok (.invokestatic 38, 3) := by decide +kernel
theorem dJ1_indexOf_4cfef_21 : decode cJ1_indexOf_4cfef 21 = .ok (.istore_n 3, 1) := by decide +kernel
theorem dJ1_indexOf_4cfef_22 : decode cJ1_indexOf_4cfef 22 = .ok (.iload_n 2, 1) := by decide +kernel
theorem dJ1_indexOf_4cfef_23 : decode cJ1_indexOf_4cfef 23 = .ok (.iload_n 3, 1) := by decide +kernel
theorem dJ1_indexOf_4cfef_24 : decode cJ1_indexOf_4cfef 24 = .ok (.if_icmp .lt 5, 3) := by decide +kernel
theorem dJ1_indexOf_4cfef_27 : decode cJ1_indexOf_4cfef 27 = .ok (.iconst (-1), 1) := by decide +kernel
theorem dJ1_indexOf_4cfef_28 : decode cJ1_indexOf_4cfef 28 = .ok (.ireturn, 1) := by decide +kernel
theorem dJ1_indexOf_4cfef_29 : decode cJ1_indexOf_4cfef 29 = .ok (.aload_n 0, 1) := by decide +kernel
theorem dJ1_indexOf_4cfef_30 : decode cJ1_indexOf_4cfef 30 = .ok (.iload_n 1, 1) := by decide +kernel
theorem dJ1_indexOf_4cfef_31 : decode cJ1_indexOf_4cfef 31 = .ok (.iload_n 2, 1) := by decide +kernel
theorem dJ1_indexOf_4cfef_32 : decode cJ1_indexOf_4cfef 32 = .ok (.iload_n 3, 1) := by decide +kernel
theorem dJ1_indexOf_4cfef_33 : decode cJ1_indexOf_4cfef 33 = .ok (.invokestatic 95, 3) := by decide +kernel
theorem dJ1_indexOf_4cfef_36 : decode cJ1_indexOf_4cfef 36 = .ok (.ireturn, 1) := by decide +kernel
def Jl_indexOf (x0 : Nat) (x1 : Int32) (x2 : Int32) (x3 : Int32) : Option Int32 :=
  (Jl_canEncode x1).bind fun v1 =>
  (if ¬ (b2i v1) = 0 then
    (if (imax x2 (0 : Int32)) < (imin x3 (Int32.ofNat (slen x0))) then
      (Jl_indexOfChar x0 x1 (imax x2 (0 : Int32)) (imin x3 (Int32.ofNat (slen x0)))).bind fun v4 =>
      some v4
    else
      some (-1 : Int32))
  else
    some (-1 : Int32))
set_option maxRecDepth 100000 in
set_option maxHeartbeats 4000000 in
theorem t_Jl_indexOf {g : GG} {d : Nat} {μ : Mm} (hd0 : 2 ≤ d) : ∀ (x0 : Nat) (x1 : Int32) (x2 : Int32) (x3 : Int32) (r : Int32), x0 < 2 → Jl_indexOf x0 x1 x2 x3 = some r → Z g d (0, 0) mJ1_indexOf_4cfef 333 0 0 0 [(0, .ref (1004 + x0)), (1, .int x1), (2, .int x2), (3, .int x3)] [] μ (zF g (some (.int r), μ)) := by
  intro x0 x1 x2 x3 r hq0 h
  unfold Jl_indexOf at h
  refine z_iload_n dJ1_indexOf_4cfef_0 1 rfl ?_
  obtain ⟨v1, he1, h⟩ := obind h
  refine y_Si (M := mJ1_indexOf_4cfef) (Y := mJ1_canEncode_9a6ad) (d2 := d - 1) (As := [.int x1]) (st := []) dJ1_indexOf_4cfef_1 mlRJ1_88 cv_J1_canEncode_9a6ad (ct_Jl_canEncode (dle (Nat.le_of_ble_eq_true rfl) hd0) he1) (dps (Nat.le_of_ble_eq_true rfl) hd0) rfl rfl (Nat.le_of_ble_eq_true rfl) ?_
  refine z_if_ne 9 dJ1_indexOf_4cfef_4 rfl (fun hc2 => ?_) (fun hc2 => ?_)
  · replace h := oT hc2 h
    refine z_iload_n dJ1_indexOf_4cfef_9 2 rfl ?_
    refine z_iconst (M := mJ1_indexOf_4cfef) (v := 0) dJ1_indexOf_4cfef_10 rfl ?_
    refine y_mmax dJ1_indexOf_4cfef_11 mlRJ1_92 mw_mmax (Nat.le_trans (Nat.le_of_ble_eq_true rfl) hd0) (Nat.le_of_ble_eq_true rfl) ?_
    refine z_istore_n (M := mJ1_indexOf_4cfef) (lv2 := [(2, .int (imax x2 (0 : Int32))), (0, .ref (1004 + x0)), (1, .int x1), (3, .int x3)]) dJ1_indexOf_4cfef_14 (Nat.le_of_ble_eq_true rfl) rfl ?_
    refine z_iload_n dJ1_indexOf_4cfef_15 3 rfl ?_
    refine z_aload_n dJ1_indexOf_4cfef_16 1 rfl ?_
    refine y_slen dJ1_indexOf_4cfef_17 hq0 ?_
    refine y_mmin dJ1_indexOf_4cfef_18 mlRJ1_38 mw_mmin (Nat.le_trans (Nat.le_of_ble_eq_true rfl) hd0) (Nat.le_of_ble_eq_true rfl) ?_
    refine z_istore_n (M := mJ1_indexOf_4cfef) (lv2 := [(3, .int (imin x3 (Int32.ofNat (slen x0)))), (2, .int (imax x2 (0 : Int32))), (0, .ref (1004 + x0)), (1, .int x1)]) dJ1_indexOf_4cfef_21 (Nat.le_of_ble_eq_true rfl) rfl ?_
    refine z_iload_n dJ1_indexOf_4cfef_22 1 rfl ?_
    refine z_iload_n dJ1_indexOf_4cfef_23 0 rfl ?_
    refine z_icmp_lt 29 dJ1_indexOf_4cfef_24 rfl (fun hc3 => ?_) (fun hc3 => ?_)
    · replace h := oT hc3 h
      refine z_aload_n dJ1_indexOf_4cfef_29 2 rfl ?_
      refine z_iload_n dJ1_indexOf_4cfef_30 3 rfl ?_
      refine z_iload_n dJ1_indexOf_4cfef_31 1 rfl ?_
      refine z_iload_n dJ1_indexOf_4cfef_32 0 rfl ?_
      obtain ⟨v4, he4, h⟩ := obind h
      refine y_Si (M := mJ1_indexOf_4cfef) (Y := mJ1_indexOfChar_4cfef) (d2 := d - 1) (As := [.ref (1004 + x0), .int x1, .int (imax x2 (0 : Int32)), .int (imin x3 (Int32.ofNat (slen x0)))]) (st := []) dJ1_indexOf_4cfef_33 mlRJ1_95 cv_J1_indexOfChar_4cfef (ct_Jl_indexOfChar (dle (Nat.le_of_ble_eq_true rfl) hd0) hq0 he4) (dps (Nat.le_of_ble_eq_true rfl) hd0) rfl rfl (Nat.le_of_ble_eq_true rfl) ?_
      cases h
      exact z_iret dJ1_indexOf_4cfef_36 rfl
    · replace h := oF hc3 h
      refine z_iconst (M := mJ1_indexOf_4cfef) (v := -1) dJ1_indexOf_4cfef_27 rfl ?_
      cases h
      exact z_iret dJ1_indexOf_4cfef_28 rfl
  · replace h := oFn hc2 h
    refine z_iconst (M := mJ1_indexOf_4cfef) (v := -1) dJ1_indexOf_4cfef_7 rfl ?_
    cases h
    exact z_iret dJ1_indexOf_4cfef_8 rfl
theorem ct_Jl_indexOf {g : GG} {d : Nat} {x0 : Nat} {x1 : Int32} {x2 : Int32} {x3 : Int32} {μ : Mm} {r : Int32} (hd0 : 2 ≤ d) (hq0 : x0 < 2) (h : Jl_indexOf x0 x1 x2 x3 = some r) : Ct g d mJ1_indexOf_4cfef [.ref (1004 + x0), .int x1, .int x2, .int x3] μ (some (.int r), μ) := y_entry in_J1_indexOf_4cfef (Nat.le_of_ble_eq_true rfl) rfl (t_Jl_indexOf hd0 x0 x1 x2 x3 r hq0 h)
-- java/lang/String.indexOf(II)I
theorem dJ0_indexOf_7cf53_0 : decode cJ0_indexOf_7cf53 0 = .ok (.aload_n 0, 1) := by decide +kernel
theorem dJ0_indexOf_7cf53_1 : decode cJ0_indexOf_7cf53 1 = .ok (.invokevirtual 492, 3) := by decide +kernel
theorem dJ0_indexOf_7cf53_4 : decode cJ0_indexOf_7cf53 4 = .ok (.ifCond .eq 19, 3) := by decide +kernel
theorem dJ0_indexOf_7cf53_7 : decode cJ0_indexOf_7cf53 7 = .ok (.aload_n 0, 1) := by decide +kernel
theorem dJ0_indexOf_7cf53_8 : decode cJ0_indexOf_7cf53 8 = .ok (.getfield 9, 3) := by decide +kernel
theorem dJ0_indexOf_7cf53_11 : decode cJ0_indexOf_7cf53 11 = .ok (.iload_n 1, 1) := by decide +kernel
theorem dJ0_indexOf_7cf53_12 : decode cJ0_indexOf_7cf53 12 = .ok (.iload_n 2, 1) := by decide +kernel
theorem dJ0_indexOf_7cf53_13 : decode cJ0_indexOf_7cf53 13 = .ok (.aload_n 0, 1) := by decide +kernel
theorem dJ0_indexOf_7cf53_14 : decode cJ0_indexOf_7cf53 14 = .ok (.invokevirtual 505, 3) := by decide +kernel
theorem dJ0_indexOf_7cf53_17 : decode cJ0_indexOf_7cf53 17 = .ok (.invokestatic 637, 3) := by decide +kernel
theorem dJ0_indexOf_7cf53_20 : decode cJ0_indexOf_7cf53 20 = .ok (.goto 16, 3) := by decide +kernel
theorem dJ0_indexOf_7cf53_23 : decode cJ0_indexOf_7cf53 23 = .ok (.aload_n 0, 1) := by decide +kernel
theorem dJ0_indexOf_7cf53_24 : decode cJ0_indexOf_7cf53 24 = .ok (.getfield 9, 3) := by decide +kernel
theorem dJ0_indexOf_7cf53_27 : decode cJ0_indexOf_7cf53 27 = .ok (.iload_n 1, 1) := by decide +kernel
theorem dJ0_indexOf_7cf53_28 : decode cJ0_indexOf_7cf53 28 = .ok (.iload_n 2, 1) := by decide +kernel
theorem dJ0_indexOf_7cf53_29 : decode cJ0_indexOf_7cf53 29 = .ok (.aload_n 0, 1) := by decide +kernel
theorem dJ0_indexOf_7cf53_30 : decode cJ0_indexOf_7cf53 30 = .ok (.invokevirtual 505, 3) := by decide +kernel
theorem dJ0_indexOf_7cf53_33 : decode cJ0_indexOf_7cf53 33 = .ok (.invokestatic 640, 3) := by decide +kernel
theorem dJ0_indexOf_7cf53_36 : decode cJ0_indexOf_7cf53 36 = .ok (.ireturn, 1) := by decide +kernel
def Js_indexOf2 (x0 : Nat) (x1 : Int32) (x2 : Int32) : Option Int32 :=
  (Js_isLatin1 x0).bind fun v1 =>
  (if (b2i v1) = 0 then
    (Js_length x0).bind fun v3 =>
    none
  else
    (Js_length x0).bind fun v4 =>
    (Jl_indexOf x0 x1 x2 v4).bind fun v5 =>
    some v5)
set_option maxRecDepth 100000 in
set_option maxHeartbeats 4000000 in
theorem t_Js_indexOf2 {g : GG} {d : Nat} {μ : Mm} (hd0 : 3 ≤ d) : ∀ (x0 : Nat) (x1 : Int32) (x2 : Int32) (r : Int32), x0 < 2 → Js_indexOf2 x0 x1 x2 = some r → Z g d (0, 0) mJ0_indexOf_7cf53 333 0 0 0 [(0, .ref (1002 + x0)), (1, .int x1), (2, .int x2)] [] μ (zF g (some (.int r), μ)) := by
  intro x0 x1 x2 r hq0 h
  unfold Js_indexOf2 at h
  refine z_aload_n dJ0_indexOf_7cf53_0 0 rfl ?_
  obtain ⟨v1, he1, h⟩ := obind h
  refine y_Wi (M := mJ0_indexOf_7cf53) (Y := mJ0_isLatin1_aae02) (d2 := d - 1) (As := []) (st := []) dJ0_indexOf_7cf53_1 mlRJ0_492 cv_J0_isLatin1_aae02 hq0 (ct_Js_isLatin1 (dle (Nat.le_of_ble_eq_true rfl) hd0) hq0 he1) (dps (Nat.le_of_ble_eq_true rfl) hd0) rfl rfl (Nat.le_of_ble_eq_true rfl) ?_
  refine z_if_eq 23 dJ0_indexOf_7cf53_4 rfl (fun hc2 => ?_) (fun hc2 => ?_)
  · replace h := oT hc2 h
    refine z_aload_n dJ0_indexOf_7cf53_23 0 rfl ?_
    refine y_sval dJ0_indexOf_7cf53_24 val_w hq0 ?_
    refine z_iload_n dJ0_indexOf_7cf53_27 1 rfl ?_
    refine z_iload_n dJ0_indexOf_7cf53_28 2 rfl ?_
    refine z_aload_n dJ0_indexOf_7cf53_29 0 rfl ?_
    obtain ⟨v3, he3, h⟩ := obind h
    refine y_Wi (M := mJ0_indexOf_7cf53) (Y := mJ0_length_8abf5) (d2 := d - 1) (As := []) (st := [.int x2, .int x1, .ref (1004 + x0)]) dJ0_indexOf_7cf53_30 mlRJ0_505 cv_J0_length_8abf5 hq0 (ct_Js_length (dle (Nat.le_of_ble_eq_true rfl) hd0) hq0 he3) (dps (Nat.le_of_ble_eq_true rfl) hd0) rfl rfl (Nat.le_of_ble_eq_true rfl) ?_
    cases h
  · replace h := oF hc2 h
    refine z_aload_n dJ0_indexOf_7cf53_7 0 rfl ?_
    refine y_sval dJ0_indexOf_7cf53_8 val_w hq0 ?_
    refine z_iload_n dJ0_indexOf_7cf53_11 1 rfl ?_
    refine z_iload_n dJ0_indexOf_7cf53_12 2 rfl ?_
    refine z_aload_n dJ0_indexOf_7cf53_13 0 rfl ?_
    obtain ⟨v4, he4, h⟩ := obind h
    refine y_Wi (M := mJ0_indexOf_7cf53) (Y := mJ0_length_8abf5) (d2 := d - 1) (As := []) (st := [.int x2, .int x1, .ref (1004 + x0)]) dJ0_indexOf_7cf53_14 mlRJ0_505 cv_J0_length_8abf5 hq0 (ct_Js_length (dle (Nat.le_of_ble_eq_true rfl) hd0) hq0 he4) (dps (Nat.le_of_ble_eq_true rfl) hd0) rfl rfl (Nat.le_of_ble_eq_true rfl) ?_
    obtain ⟨v5, he5, h⟩ := obind h
    refine y_Si (M := mJ0_indexOf_7cf53) (Y := mJ1_indexOf_4cfef) (d2 := d - 1) (As := [.ref (1004 + x0), .int x1, .int x2, .int v4]) (st := []) dJ0_indexOf_7cf53_17 mlRJ0_637 cv_J1_indexOf_4cfef (ct_Jl_indexOf (dle (Nat.le_of_ble_eq_true rfl) hd0) hq0 he5) (dps (Nat.le_of_ble_eq_true rfl) hd0) rfl rfl (Nat.le_of_ble_eq_true rfl) ?_
    refine z_goto 36 dJ0_indexOf_7cf53_20 rfl ?_
    cases h
    exact z_iret dJ0_indexOf_7cf53_36 rfl
theorem ct_Js_indexOf2 {g : GG} {d : Nat} {x0 : Nat} {x1 : Int32} {x2 : Int32} {μ : Mm} {r : Int32} (hd0 : 3 ≤ d) (hq0 : x0 < 2) (h : Js_indexOf2 x0 x1 x2 = some r) : Ct g d mJ0_indexOf_7cf53 [.ref (1002 + x0), .int x1, .int x2] μ (some (.int r), μ) := y_entry in_J0_indexOf_7cf53 (Nat.le_of_ble_eq_true rfl) rfl (t_Js_indexOf2 hd0 x0 x1 x2 r hq0 h)
-- java/lang/String.indexOf(I)I
theorem dJ0_indexOf_0f7a4_0 : decode cJ0_indexOf_0f7a4 0 = .ok (.aload_n 0, 1) := by decide +kernel
theorem dJ0_indexOf_0f7a4_1 : decode cJ0_indexOf_0f7a4 1 = .ok (.iload_n 1, 1) := by decide +kernel
theorem dJ0_indexOf_0f7a4_2 : decode cJ0_indexOf_0f7a4 2 = .ok (.iconst 0, 1) := by decide +kernel
theorem dJ0_indexOf_0f7a4_3 : decode cJ0_indexOf_0f7a4 3 = .ok (.invokevirtual 633, 3) := by decide +kernel
theorem dJ0_indexOf_0f7a4_6 : decode cJ0_indexOf_0f7a4 6 = .ok (.ireturn, 1) := by decide +kernel
def Js_indexOf (x0 : Nat) (x1 : Int32) : Option Int32 :=
  (Js_indexOf2 x0 x1 (0 : Int32)).bind fun v1 =>
  some v1
set_option maxRecDepth 100000 in
set_option maxHeartbeats 4000000 in
theorem t_Js_indexOf {g : GG} {d : Nat} {μ : Mm} (hd0 : 4 ≤ d) : ∀ (x0 : Nat) (x1 : Int32) (r : Int32), x0 < 2 → Js_indexOf x0 x1 = some r → Z g d (0, 0) mJ0_indexOf_0f7a4 333 0 0 0 [(0, .ref (1002 + x0)), (1, .int x1)] [] μ (zF g (some (.int r), μ)) := by
  intro x0 x1 r hq0 h
  unfold Js_indexOf at h
  refine z_aload_n dJ0_indexOf_0f7a4_0 0 rfl ?_
  refine z_iload_n dJ0_indexOf_0f7a4_1 1 rfl ?_
  refine z_iconst (M := mJ0_indexOf_0f7a4) (v := 0) dJ0_indexOf_0f7a4_2 rfl ?_
  obtain ⟨v1, he1, h⟩ := obind h
  refine y_Wi (M := mJ0_indexOf_0f7a4) (Y := mJ0_indexOf_7cf53) (d2 := d - 1) (As := [.int x1, .int (0 : Int32)]) (st := []) dJ0_indexOf_0f7a4_3 mlRJ0_633 cv_J0_indexOf_7cf53 hq0 (ct_Js_indexOf2 (dle (Nat.le_of_ble_eq_true rfl) hd0) hq0 he1) (dps (Nat.le_of_ble_eq_true rfl) hd0) rfl rfl (Nat.le_of_ble_eq_true rfl) ?_
  cases h
  exact z_iret dJ0_indexOf_0f7a4_6 rfl
theorem ct_Js_indexOf {g : GG} {d : Nat} {x0 : Nat} {x1 : Int32} {μ : Mm} {r : Int32} (hd0 : 4 ≤ d) (hq0 : x0 < 2) (h : Js_indexOf x0 x1 = some r) : Ct g d mJ0_indexOf_0f7a4 [.ref (1002 + x0), .int x1] μ (some (.int r), μ) := y_entry in_J0_indexOf_0f7a4 (Nat.le_of_ble_eq_true rfl) rfl (t_Js_indexOf hd0 x0 x1 r hq0 h)
end
section
-- FuseMinutes$Crews.outcome(IIIII)I
theorem dX1_outcome_0 : decode cX1_outcome 0 = .ok (.iload 4, 2) := by decide +kernel
theorem dX1_outcome_2 : decode cX1_outcome 2 = .ok (.iload_n 0, 1) := by decide +kernel
theorem dX1_outcome_3 : decode cX1_outcome 3 = .ok (.iload_n 1, 1) := by decide +kernel
theorem dX1_outcome_4 : decode cX1_outcome 4 = .ok (.ior, 1) := by decide +kernel
theorem dX1_outcome_5 : decode cX1_outcome 5 = .ok (.iconst (-1), 1) := by decide +kernel
theorem dX1_outcome_6 : decode cX1_outcome 6 = .ok (.ixor, 1) := by decide +kernel
theorem dX1_outcome_7 : decode cX1_outcome 7 = .ok (.iand, 1) := by decide +kernel
theorem dX1_outcome_8 : decode cX1_outcome 8 = .ok (.istore 5, 2) := by decide +kernel
theorem dX1_outcome_10 : decode cX1_outcome 10 = .ok (.iload 5, 2) := by decide +kernel
theorem dX1_outcome_12 : decode cX1_outcome 12 = .ok (.ifCond .ne 5, 3) := by decide +kernel
theorem dX1_outcome_15 : decode cX1_outcome 15 = .ok (.iconst 0, 1) := by decide +kernel
theorem dX1_outcome_16 : decode cX1_outcome 16 = .ok (.ireturn, 1) := by decide +kernel
theorem dX1_outcome_17 : decode cX1_outcome 17 = .ok (.iconst (-1), 1) := by decide +kernel
theorem dX1_outcome_18 : decode cX1_outcome 18 = .ok (.istore 6, 2) := by decide +kernel
theorem dX1_outcome_20 : decode cX1_outcome 20 = .ok (.iconst 0, 1) := by decide +kernel
theorem dX1_outcome_21 : decode cX1_outcome 21 = .ok (.istore 7, 2) := by decide +kernel
theorem dX1_outcome_23 : decode cX1_outcome 23 = .ok (.iload 7, 2) := by decide +kernel
theorem dX1_outcome_25 : decode cX1_outcome 25 = .ok (.iconst 4, 1) := by decide +kernel
theorem dX1_outcome_26 : decode cX1_outcome 26 = .ok (.if_icmp .ge 40, 3) := by decide +kernel
theorem dX1_outcome_29 : decode cX1_outcome 29 = .ok (.iload 5, 2) := by decide +kernel
theorem dX1_outcome_31 : decode cX1_outcome 31 = .ok (.iload 7, 2) := by decide +kernel
theorem dX1_outcome_33 : decode cX1_outcome 33 = .ok (.ishr, 1) := by decide +kernel
theorem dX1_outcome_34 : decode cX1_outcome 34 = .ok (.iconst 1, 1) := by decide +kernel
theorem dX1_outcome_35 : decode cX1_outcome 35 = .ok (.iand, 1) := by decide +kernel
theorem dX1_outcome_36 : decode cX1_outcome 36 = .ok (.ifCond .eq 24, 3) := by decide +kernel
theorem dX1_outcome_39 : decode cX1_outcome 39 = .ok (.iload 6, 2) := by decide +kernel
theorem dX1_outcome_41 : decode cX1_outcome 41 = .ok (.iload_n 0, 1) := by decide +kernel
theorem dX1_outcome_42 : decode cX1_outcome 42 = .ok (.iconst 1, 1) := by decide +kernel
theorem dX1_outcome_43 : decode cX1_outcome 43 = .ok (.iload 7, 2) := by decide +kernel
theorem dX1_outcome_45 : decode cX1_outcome 45 = .ok (.ishl, 1) := by decide +kernel
theorem dX1_outcome_46 : decode cX1_outcome 46 = .ok (.ior, 1) := by decide +kernel
theorem dX1_outcome_47 : decode cX1_outcome 47 = .ok (.iload_n 1, 1) := by decide +kernel
theorem dX1_outcome_48 : decode cX1_outcome 48 = .ok (.iload_n 2, 1) := by decide +kernel
theorem dX1_outcome_49 : decode cX1_outcome 49 = .ok (.iload_n 3, 1) := by decide +kernel
theorem dX1_outcome_50 : decode cX1_outcome 50 = .ok (.iload 4, 2) := by decide +kernel
theorem dX1_outcome_52 : decode cX1_outcome 52 = .ok (.invokestatic 9, 3) := by decide +kernel
theorem dX1_outcome_55 : decode cX1_outcome 55 = .ok (.invokestatic 15, 3) := by decide +kernel
theorem dX1_outcome_58 : decode cX1_outcome 58 = .ok (.istore 6, 2) := by decide +kernel
theorem dX1_outcome_60 : decode cX1_outcome 60 = .ok (.iinc 7 1, 3) := by decide +kernel
theorem dX1_outcome_63 : decode cX1_outcome 63 = .ok (.goto (-40), 3) := by decide +kernel
theorem dX1_outcome_66 : decode cX1_outcome 66 = .ok (.iload 6, 2) := by decide +kernel
theorem dX1_outcome_68 : decode cX1_outcome 68 = .ok (.ireturn, 1) := by decide +kernel
def Cr_outcome_60 (rc : Nat → Int32 → Int32 → Int32 → Int32 → Int32 → Option Int32) (k23 : Int32 → Int32 → Int32 → Int32 → Int32 → Int32 → Int32 → Int32 → Option Int32) (x0 : Int32) (x1 : Int32) (x2 : Int32) (x3 : Int32) (x4 : Int32) (x5 : Int32) (x6 : Int32) (x7 : Int32) : Option Int32 :=
  k23 x0 x1 x2 x3 x4 x5 x6 (x7 + (1 : Int32))
set_option maxRecDepth 100000 in
set_option maxHeartbeats 4000000 in
theorem t_Cr_outcome_60 {g : GG} {d : Nat} {μ : Mm} {d2 : Nat} {rc : Nat → Int32 → Int32 → Int32 → Int32 → Int32 → Option Int32} (hb0 : 1 ≤ d2) (hr0 : ∀ (a0 : Int32) (a1 : Int32) (a2 : Int32) (a3 : Int32) (a4 : Int32) (r : Int32), rc 0 a0 a1 a2 a3 a4 = some r → Ct g d2 mX1_outcome [.int a0, .int a1, .int a2, .int a3, .int a4] μ (some (.int r), μ)) (hr1 : ∀ (a0 : Int32) (a1 : Int32) (a2 : Int32) (a3 : Int32) (a4 : Int32) (r : Int32), rc 1 a0 a1 a2 a3 a4 = some r → Ct g d2 mX1_behindTaking [.int a0, .int a1, .int a2, .int a3, .int a4] μ (some (.int r), μ)) (hd0 : d2 + 1 ≤ d) {k23 : Int32 → Int32 → Int32 → Int32 → Int32 → Int32 → Int32 → Int32 → Option Int32} (hk23 : ∀ (x0 : Int32) (x1 : Int32) (x2 : Int32) (x3 : Int32) (x4 : Int32) (x5 : Int32) (x6 : Int32) (x7 : Int32) (r : Int32), k23 x0 x1 x2 x3 x4 x5 x6 x7 = some r → Z g d (0, 0) mX1_outcome 333 0 0 23 [(0, .int x0), (1, .int x1), (2, .int x2), (3, .int x3), (4, .int x4), (5, .int x5), (6, .int x6), (7, .int x7)] [] μ (zF g (some (.int r), μ))) : ∀ (x0 : Int32) (x1 : Int32) (x2 : Int32) (x3 : Int32) (x4 : Int32) (x5 : Int32) (x6 : Int32) (x7 : Int32) (r : Int32), Cr_outcome_60 rc k23 x0 x1 x2 x3 x4 x5 x6 x7 = some r → Z g d (0, 0) mX1_outcome 333 0 0 60 [(0, .int x0), (1, .int x1), (2, .int x2), (3, .int x3), (4, .int x4), (5, .int x5), (6, .int x6), (7, .int x7)] [] μ (zF g (some (.int r), μ)) := by
  intro x0 x1 x2 x3 x4 x5 x6 x7 r h
  unfold Cr_outcome_60 at h
  refine z_iinc (M := mX1_outcome) (v := (x7 + (1 : Int32))) (lv2 := [(7, .int (x7 + (1 : Int32))), (0, .int x0), (1, .int x1), (2, .int x2), (3, .int x3), (4, .int x4), (5, .int x5), (6, .int x6)]) dX1_outcome_60 7 rfl rfl (Nat.le_of_ble_eq_true rfl) rfl ?_
  refine z_goto 23 dX1_outcome_63 rfl ?_
  refine z_lv (lv2 := [(0, .int x0), (1, .int x1), (2, .int x2), (3, .int x3), (4, .int x4), (5, .int x5), (6, .int x6), (7, .int (x7 + (1 : Int32)))]) [1, 2, 3, 4, 5, 6, 7, 0] rfl ?_
  exact hk23 x0 x1 x2 x3 x4 x5 x6 (x7 + (1 : Int32)) _ h
def Cr_outcome_23 (rc : Nat → Int32 → Int32 → Int32 → Int32 → Int32 → Option Int32) : Nat → Int32 → Int32 → Int32 → Int32 → Int32 → Int32 → Int32 → Int32 → Option Int32
  | 0, _, _, _, _, _, _, _, _ => none
  | f + 1, x0, x1, x2, x3, x4, x5, x6, x7 =>
    (if (4 : Int32) ≤ x7 then
      some x6
    else
      (if ((x5 >>> (x7 &&& 31)) &&& (1 : Int32)) = 0 then
        Cr_outcome_60 rc (Cr_outcome_23 rc f) x0 x1 x2 x3 x4 x5 x6 x7
      else
        (rc 1 (x0 ||| ((1 : Int32) <<< (x7 &&& 31))) x1 x2 x3 x4).bind fun v3 =>
        Cr_outcome_60 rc (Cr_outcome_23 rc f) x0 x1 x2 x3 x4 x5 (imax x6 v3) x7))
set_option maxRecDepth 100000 in
set_option maxHeartbeats 4000000 in
theorem t_Cr_outcome_23 {g : GG} {d : Nat} {μ : Mm} {d2 : Nat} {rc : Nat → Int32 → Int32 → Int32 → Int32 → Int32 → Option Int32} (hb0 : 1 ≤ d2) (hr0 : ∀ (a0 : Int32) (a1 : Int32) (a2 : Int32) (a3 : Int32) (a4 : Int32) (r : Int32), rc 0 a0 a1 a2 a3 a4 = some r → Ct g d2 mX1_outcome [.int a0, .int a1, .int a2, .int a3, .int a4] μ (some (.int r), μ)) (hr1 : ∀ (a0 : Int32) (a1 : Int32) (a2 : Int32) (a3 : Int32) (a4 : Int32) (r : Int32), rc 1 a0 a1 a2 a3 a4 = some r → Ct g d2 mX1_behindTaking [.int a0, .int a1, .int a2, .int a3, .int a4] μ (some (.int r), μ)) (hd0 : d2 + 1 ≤ d) : ∀ (f : Nat), ∀ (x0 : Int32) (x1 : Int32) (x2 : Int32) (x3 : Int32) (x4 : Int32) (x5 : Int32) (x6 : Int32) (x7 : Int32) (r : Int32), Cr_outcome_23 rc f x0 x1 x2 x3 x4 x5 x6 x7 = some r → Z g d (0, 0) mX1_outcome 333 0 0 23 [(0, .int x0), (1, .int x1), (2, .int x2), (3, .int x3), (4, .int x4), (5, .int x5), (6, .int x6), (7, .int x7)] [] μ (zF g (some (.int r), μ)) := by
  intro f
  induction f with
  | zero =>
    intro x0 x1 x2 x3 x4 x5 x6 x7 r h
    cases h
  | succ f ih =>
    intro x0 x1 x2 x3 x4 x5 x6 x7 r h
    rw [Cr_outcome_23] at h
    refine z_iload dX1_outcome_23 7 rfl ?_
    refine z_iconst (M := mX1_outcome) (v := 4) dX1_outcome_25 rfl ?_
    refine z_icmp_ge 66 dX1_outcome_26 rfl (fun hc1 => ?_) (fun hc1 => ?_)
    · replace h := oT hc1 h
      refine z_iload dX1_outcome_66 6 rfl ?_
      cases h
      exact z_iret dX1_outcome_68 rfl
    · replace h := oF hc1 h
      refine z_iload dX1_outcome_29 5 rfl ?_
      refine z_iload dX1_outcome_31 7 rfl ?_
      refine z_ishr dX1_outcome_33 ?_
      refine z_iconst (M := mX1_outcome) (v := 1) dX1_outcome_34 rfl ?_
      refine z_iand dX1_outcome_35 ?_
      refine z_if_eq 60 dX1_outcome_36 rfl (fun hc2 => ?_) (fun hc2 => ?_)
      · replace h := oT hc2 h
        exact t_Cr_outcome_60 hb0 hr0 hr1 hd0 ih x0 x1 x2 x3 x4 x5 x6 x7 _ h
      · replace h := oF hc2 h
        refine z_iload dX1_outcome_39 6 rfl ?_
        refine z_iload_n dX1_outcome_41 0 rfl ?_
        refine z_iconst (M := mX1_outcome) (v := 1) dX1_outcome_42 rfl ?_
        refine z_iload dX1_outcome_43 7 rfl ?_
        refine z_ishl dX1_outcome_45 ?_
        refine z_ior dX1_outcome_46 ?_
        refine z_iload_n dX1_outcome_47 1 rfl ?_
        refine z_iload_n dX1_outcome_48 2 rfl ?_
        refine z_iload_n dX1_outcome_49 3 rfl ?_
        refine z_iload dX1_outcome_50 4 rfl ?_
        obtain ⟨v3, he3, h⟩ := obind h
        refine y_Si (M := mX1_outcome) (Y := mX1_behindTaking) (d2 := d2) (As := [.int (x0 ||| ((1 : Int32) <<< (x7 &&& 31))), .int x1, .int x2, .int x3, .int x4]) (st := [.int x6]) dX1_outcome_52 mlRX1_9 cv_X1_behindTaking (hr1 (x0 ||| ((1 : Int32) <<< (x7 &&& 31))) x1 x2 x3 x4 _ he3) (by omega) rfl rfl (Nat.le_of_ble_eq_true rfl) ?_
        refine y_mmax dX1_outcome_55 mlRX1_15 mw_mmax (by omega) (Nat.le_of_ble_eq_true rfl) ?_
        refine z_istore (M := mX1_outcome) (lv2 := [(6, .int (imax x6 v3)), (0, .int x0), (1, .int x1), (2, .int x2), (3, .int x3), (4, .int x4), (5, .int x5), (7, .int x7)]) dX1_outcome_58 (Nat.le_of_ble_eq_true rfl) rfl ?_
        refine z_lv (lv2 := [(0, .int x0), (1, .int x1), (2, .int x2), (3, .int x3), (4, .int x4), (5, .int x5), (6, .int (imax x6 v3)), (7, .int x7)]) [1, 2, 3, 4, 5, 6, 0, 7] rfl ?_
        exact t_Cr_outcome_60 hb0 hr0 hr1 hd0 ih x0 x1 x2 x3 x4 x5 (imax x6 v3) x7 _ h
def Cr_outcome (rc : Nat → Int32 → Int32 → Int32 → Int32 → Int32 → Option Int32) (x0 : Int32) (x1 : Int32) (x2 : Int32) (x3 : Int32) (x4 : Int32) : Option Int32 :=
  (if ¬ (x4 &&& ((x0 ||| x1) ^^^ (-1 : Int32))) = 0 then
    Cr_outcome_23 rc FU x0 x1 x2 x3 x4 (x4 &&& ((x0 ||| x1) ^^^ (-1 : Int32))) (-1 : Int32) (0 : Int32)
  else
    some (0 : Int32))
set_option maxRecDepth 100000 in
set_option maxHeartbeats 4000000 in
theorem t_Cr_outcome {g : GG} {d : Nat} {μ : Mm} {d2 : Nat} {rc : Nat → Int32 → Int32 → Int32 → Int32 → Int32 → Option Int32} (hb0 : 1 ≤ d2) (hr0 : ∀ (a0 : Int32) (a1 : Int32) (a2 : Int32) (a3 : Int32) (a4 : Int32) (r : Int32), rc 0 a0 a1 a2 a3 a4 = some r → Ct g d2 mX1_outcome [.int a0, .int a1, .int a2, .int a3, .int a4] μ (some (.int r), μ)) (hr1 : ∀ (a0 : Int32) (a1 : Int32) (a2 : Int32) (a3 : Int32) (a4 : Int32) (r : Int32), rc 1 a0 a1 a2 a3 a4 = some r → Ct g d2 mX1_behindTaking [.int a0, .int a1, .int a2, .int a3, .int a4] μ (some (.int r), μ)) (hd0 : d2 + 1 ≤ d) : ∀ (x0 : Int32) (x1 : Int32) (x2 : Int32) (x3 : Int32) (x4 : Int32) (r : Int32), Cr_outcome rc x0 x1 x2 x3 x4 = some r → Z g d (0, 0) mX1_outcome 333 0 0 0 [(0, .int x0), (1, .int x1), (2, .int x2), (3, .int x3), (4, .int x4)] [] μ (zF g (some (.int r), μ)) := by
  intro x0 x1 x2 x3 x4 r h
  unfold Cr_outcome at h
  refine z_iload dX1_outcome_0 4 rfl ?_
  refine z_iload_n dX1_outcome_2 0 rfl ?_
  refine z_iload_n dX1_outcome_3 1 rfl ?_
  refine z_ior dX1_outcome_4 ?_
  refine z_iconst (M := mX1_outcome) (v := -1) dX1_outcome_5 rfl ?_
  refine z_ixor dX1_outcome_6 ?_
  refine z_iand dX1_outcome_7 ?_
  refine z_istore (M := mX1_outcome) (lv2 := [(5, .int (x4 &&& ((x0 ||| x1) ^^^ (-1 : Int32)))), (0, .int x0), (1, .int x1), (2, .int x2), (3, .int x3), (4, .int x4)]) dX1_outcome_8 (Nat.le_of_ble_eq_true rfl) rfl ?_
  refine z_iload dX1_outcome_10 0 rfl ?_
  refine z_if_ne 17 dX1_outcome_12 rfl (fun hc1 => ?_) (fun hc1 => ?_)
  · replace h := oT hc1 h
    refine z_iconst (M := mX1_outcome) (v := -1) dX1_outcome_17 rfl ?_
    refine z_istore (M := mX1_outcome) (lv2 := [(6, .int (-1 : Int32)), (5, .int (x4 &&& ((x0 ||| x1) ^^^ (-1 : Int32)))), (0, .int x0), (1, .int x1), (2, .int x2), (3, .int x3), (4, .int x4)]) dX1_outcome_18 (Nat.le_of_ble_eq_true rfl) rfl ?_
    refine z_iconst (M := mX1_outcome) (v := 0) dX1_outcome_20 rfl ?_
    refine z_istore (M := mX1_outcome) (lv2 := [(7, .int (0 : Int32)), (6, .int (-1 : Int32)), (5, .int (x4 &&& ((x0 ||| x1) ^^^ (-1 : Int32)))), (0, .int x0), (1, .int x1), (2, .int x2), (3, .int x3), (4, .int x4)]) dX1_outcome_21 (Nat.le_of_ble_eq_true rfl) rfl ?_
    refine z_lv (lv2 := [(0, .int x0), (1, .int x1), (2, .int x2), (3, .int x3), (4, .int x4), (5, .int (x4 &&& ((x0 ||| x1) ^^^ (-1 : Int32)))), (6, .int (-1 : Int32)), (7, .int (0 : Int32))]) [3, 4, 5, 6, 7, 2, 1, 0] rfl ?_
    exact t_Cr_outcome_23 hb0 hr0 hr1 hd0 FU x0 x1 x2 x3 x4 (x4 &&& ((x0 ||| x1) ^^^ (-1 : Int32))) (-1 : Int32) (0 : Int32) _ h
  · replace h := oFn hc1 h
    refine z_iconst (M := mX1_outcome) (v := 0) dX1_outcome_15 rfl ?_
    cases h
    exact z_iret dX1_outcome_16 rfl
theorem ct_Cr_outcome_o {g : GG} {d : Nat} {x0 : Int32} {x1 : Int32} {x2 : Int32} {x3 : Int32} {x4 : Int32} {μ : Mm} {r : Int32} {d2 : Nat} {rc : Nat → Int32 → Int32 → Int32 → Int32 → Int32 → Option Int32} (hb0 : 1 ≤ d2) (hr0 : ∀ (a0 : Int32) (a1 : Int32) (a2 : Int32) (a3 : Int32) (a4 : Int32) (r : Int32), rc 0 a0 a1 a2 a3 a4 = some r → Ct g d2 mX1_outcome [.int a0, .int a1, .int a2, .int a3, .int a4] μ (some (.int r), μ)) (hr1 : ∀ (a0 : Int32) (a1 : Int32) (a2 : Int32) (a3 : Int32) (a4 : Int32) (r : Int32), rc 1 a0 a1 a2 a3 a4 = some r → Ct g d2 mX1_behindTaking [.int a0, .int a1, .int a2, .int a3, .int a4] μ (some (.int r), μ)) (hd0 : d2 + 1 ≤ d)  (h : Cr_outcome rc x0 x1 x2 x3 x4 = some r) : Ct g d mX1_outcome [.int x0, .int x1, .int x2, .int x3, .int x4] μ (some (.int r), μ) := y_entry in_X1_outcome (Nat.le_of_ble_eq_true rfl) rfl (t_Cr_outcome hb0 hr0 hr1 hd0 x0 x1 x2 x3 x4 r h)
-- FuseMinutes$Crews.behindTaking(IIIII)I
theorem dX1_behindTaking_0 : decode cX1_behindTaking 0 = .ok (.iload_n 2, 1) := by decide +kernel
theorem dX1_behindTaking_1 : decode cX1_behindTaking 1 = .ok (.iload_n 0, 1) := by decide +kernel
theorem dX1_behindTaking_2 : decode cX1_behindTaking 2 = .ok (.ishr, 1) := by decide +kernel
theorem dX1_behindTaking_3 : decode cX1_behindTaking 3 = .ok (.iconst 1, 1) := by decide +kernel
theorem dX1_behindTaking_4 : decode cX1_behindTaking 4 = .ok (.iand, 1) := by decide +kernel
theorem dX1_behindTaking_5 : decode cX1_behindTaking 5 = .ok (.ifCond .eq 5, 3) := by decide +kernel
theorem dX1_behindTaking_8 : decode cX1_behindTaking 8 = .ok (.iconst 1, 1) := by decide +kernel
theorem dX1_behindTaking_9 : decode cX1_behindTaking 9 = .ok (.ireturn, 1) := by decide +kernel
theorem dX1_behindTaking_10 : decode cX1_behindTaking 10 = .ok (.iload_n 1, 1) := by decide +kernel
theorem dX1_behindTaking_11 : decode cX1_behindTaking 11 = .ok (.iload_n 0, 1) := by decide +kernel
theorem dX1_behindTaking_12 : decode cX1_behindTaking 12 = .ok (.iload_n 3, 1) := by decide +kernel
theorem dX1_behindTaking_13 : decode cX1_behindTaking 13 = .ok (.iload_n 2, 1) := by decide +kernel
theorem dX1_behindTaking_14 : decode cX1_behindTaking 14 = .ok (.iload 4, 2) := by decide +kernel
theorem dX1_behindTaking_16 : decode cX1_behindTaking 16 = .ok (.invokestatic 21, 3) := by decide +kernel
theorem dX1_behindTaking_19 : decode cX1_behindTaking 19 = .ok (.ineg, 1) := by decide +kernel
theorem dX1_behindTaking_20 : decode cX1_behindTaking 20 = .ok (.ireturn, 1) := by decide +kernel
def Cr_behindTaking (rc : Nat → Int32 → Int32 → Int32 → Int32 → Int32 → Option Int32) (x0 : Int32) (x1 : Int32) (x2 : Int32) (x3 : Int32) (x4 : Int32) : Option Int32 :=
  (if ((x2 >>> (x0 &&& 31)) &&& (1 : Int32)) = 0 then
    (rc 0 x1 x0 x3 x2 x4).bind fun v2 =>
    some (-v2)
  else
    some (1 : Int32))
set_option maxRecDepth 100000 in
set_option maxHeartbeats 4000000 in
theorem t_Cr_behindTaking {g : GG} {d : Nat} {μ : Mm} {d2 : Nat} {rc : Nat → Int32 → Int32 → Int32 → Int32 → Int32 → Option Int32} (hb0 : 1 ≤ d2) (hr0 : ∀ (a0 : Int32) (a1 : Int32) (a2 : Int32) (a3 : Int32) (a4 : Int32) (r : Int32), rc 0 a0 a1 a2 a3 a4 = some r → Ct g d2 mX1_outcome [.int a0, .int a1, .int a2, .int a3, .int a4] μ (some (.int r), μ)) (hr1 : ∀ (a0 : Int32) (a1 : Int32) (a2 : Int32) (a3 : Int32) (a4 : Int32) (r : Int32), rc 1 a0 a1 a2 a3 a4 = some r → Ct g d2 mX1_behindTaking [.int a0, .int a1, .int a2, .int a3, .int a4] μ (some (.int r), μ)) (hd0 : d2 + 1 ≤ d) : ∀ (x0 : Int32) (x1 : Int32) (x2 : Int32) (x3 : Int32) (x4 : Int32) (r : Int32), Cr_behindTaking rc x0 x1 x2 x3 x4 = some r → Z g d (0, 0) mX1_behindTaking 333 0 0 0 [(0, .int x0), (1, .int x1), (2, .int x2), (3, .int x3), (4, .int x4)] [] μ (zF g (some (.int r), μ)) := by
  intro x0 x1 x2 x3 x4 r h
  unfold Cr_behindTaking at h
  refine z_iload_n dX1_behindTaking_0 2 rfl ?_
  refine z_iload_n dX1_behindTaking_1 0 rfl ?_
  refine z_ishr dX1_behindTaking_2 ?_
  refine z_iconst (M := mX1_behindTaking) (v := 1) dX1_behindTaking_3 rfl ?_
  refine z_iand dX1_behindTaking_4 ?_
  refine z_if_eq 10 dX1_behindTaking_5 rfl (fun hc1 => ?_) (fun hc1 => ?_)
  · replace h := oT hc1 h
    refine z_iload_n dX1_behindTaking_10 1 rfl ?_
    refine z_iload_n dX1_behindTaking_11 0 rfl ?_
    refine z_iload_n dX1_behindTaking_12 3 rfl ?_
    refine z_iload_n dX1_behindTaking_13 2 rfl ?_
    refine z_iload dX1_behindTaking_14 4 rfl ?_
    obtain ⟨v2, he2, h⟩ := obind h
    refine y_Si (M := mX1_behindTaking) (Y := mX1_outcome) (d2 := d2) (As := [.int x1, .int x0, .int x3, .int x2, .int x4]) (st := []) dX1_behindTaking_16 mlRX1_21 cv_X1_outcome (hr0 x1 x0 x3 x2 x4 _ he2) (by omega) rfl rfl (Nat.le_of_ble_eq_true rfl) ?_
    refine z_ineg dX1_behindTaking_19 ?_
    cases h
    exact z_iret dX1_behindTaking_20 rfl
  · replace h := oF hc1 h
    refine z_iconst (M := mX1_behindTaking) (v := 1) dX1_behindTaking_8 rfl ?_
    cases h
    exact z_iret dX1_behindTaking_9 rfl
theorem ct_Cr_behindTaking_o {g : GG} {d : Nat} {x0 : Int32} {x1 : Int32} {x2 : Int32} {x3 : Int32} {x4 : Int32} {μ : Mm} {r : Int32} {d2 : Nat} {rc : Nat → Int32 → Int32 → Int32 → Int32 → Int32 → Option Int32} (hb0 : 1 ≤ d2) (hr0 : ∀ (a0 : Int32) (a1 : Int32) (a2 : Int32) (a3 : Int32) (a4 : Int32) (r : Int32), rc 0 a0 a1 a2 a3 a4 = some r → Ct g d2 mX1_outcome [.int a0, .int a1, .int a2, .int a3, .int a4] μ (some (.int r), μ)) (hr1 : ∀ (a0 : Int32) (a1 : Int32) (a2 : Int32) (a3 : Int32) (a4 : Int32) (r : Int32), rc 1 a0 a1 a2 a3 a4 = some r → Ct g d2 mX1_behindTaking [.int a0, .int a1, .int a2, .int a3, .int a4] μ (some (.int r), μ)) (hd0 : d2 + 1 ≤ d)  (h : Cr_behindTaking rc x0 x1 x2 x3 x4 = some r) : Ct g d mX1_behindTaking [.int x0, .int x1, .int x2, .int x3, .int x4] μ (some (.int r), μ) := y_entry in_X1_behindTaking (Nat.le_of_ble_eq_true rfl) rfl (t_Cr_behindTaking hb0 hr0 hr1 hd0 x0 x1 x2 x3 x4 r h)
def G_cr : Nat → Nat → Int32 → Int32 → Int32 → Int32 → Int32 → Option Int32
  | 0, _, _, _, _, _, _ => none
  | f + 1, t, a0, a1, a2, a3, a4 => if t = 0 then Cr_outcome (G_cr f) a0 a1 a2 a3 a4 else if t = 1 then Cr_behindTaking (G_cr f) a0 a1 a2 a3 a4 else none
theorem g_cr {g : GG} {μ : Mm} : ∀ (f d : Nat), 1 + f ≤ d → (∀ (a0 : Int32) (a1 : Int32) (a2 : Int32) (a3 : Int32) (a4 : Int32) (r : Int32), G_cr f 0 a0 a1 a2 a3 a4 = some r → Ct g d mX1_outcome [.int a0, .int a1, .int a2, .int a3, .int a4] μ (some (.int r), μ)) ∧ (∀ (a0 : Int32) (a1 : Int32) (a2 : Int32) (a3 : Int32) (a4 : Int32) (r : Int32), G_cr f 1 a0 a1 a2 a3 a4 = some r → Ct g d mX1_behindTaking [.int a0, .int a1, .int a2, .int a3, .int a4] μ (some (.int r), μ)) := by
  intro f
  induction f with
  | zero =>
    intro d _
    refine ⟨?_, ?_⟩
    · intro a0 a1 a2 a3 a4 r h
      cases h
    · intro a0 a1 a2 a3 a4 r h
      cases h
  | succ f ih =>
    intro d hd
    obtain ⟨i0, i1⟩ := ih (d - 1) (by omega)
    refine ⟨?_, ?_⟩
    · intro a0 a1 a2 a3 a4 r h
      exact ct_Cr_outcome_o (d2 := d - 1) (rc := G_cr f) (by omega) i0 i1 (by omega) (by simpa [G_cr] using h)
    · intro a0 a1 a2 a3 a4 r h
      exact ct_Cr_behindTaking_o (d2 := d - 1) (rc := G_cr f) (by omega) i0 i1 (by omega) (by simpa [G_cr] using h)
theorem ct_Cr_outcome {g : GG} {d : Nat} {a0 : Int32} {a1 : Int32} {a2 : Int32} {a3 : Int32} {a4 : Int32} {μ : Mm} {r : Int32} (hd0 : 201 ≤ d) (h : G_cr FR 0 a0 a1 a2 a3 a4 = some r) : Ct g d mX1_outcome [.int a0, .int a1, .int a2, .int a3, .int a4] μ (some (.int r), μ) := (g_cr FR d (by unfold FR; omega)).1 a0 a1 a2 a3 a4 r h
theorem ct_Cr_behindTaking {g : GG} {d : Nat} {a0 : Int32} {a1 : Int32} {a2 : Int32} {a3 : Int32} {a4 : Int32} {μ : Mm} {r : Int32} (hd0 : 201 ≤ d) (h : G_cr FR 1 a0 a1 a2 a3 a4 = some r) : Ct g d mX1_behindTaking [.int a0, .int a1, .int a2, .int a3, .int a4] μ (some (.int r), μ) := (g_cr FR d (by unfold FR; omega)).2 a0 a1 a2 a3 a4 r h
-- FuseMinutes$Crews.bestFirst(III)I
theorem dX1_bestFirst_0 : decode cX1_bestFirst 0 = .ok (.iconst 0, 1) := by decide +kernel
theorem dX1_bestFirst_1 : decode cX1_bestFirst 1 = .ok (.iconst 0, 1) := by decide +kernel
theorem dX1_bestFirst_2 : decode cX1_bestFirst 2 = .ok (.iload_n 0, 1) := by decide +kernel
theorem dX1_bestFirst_3 : decode cX1_bestFirst 3 = .ok (.iload_n 1, 1) := by decide +kernel
theorem dX1_bestFirst_4 : decode cX1_bestFirst 4 = .ok (.iload_n 2, 1) := by decide +kernel
theorem dX1_bestFirst_5 : decode cX1_bestFirst 5 = .ok (.invokestatic 21, 3) := by decide +kernel
theorem dX1_bestFirst_8 : decode cX1_bestFirst 8 = .ok (.istore_n 3, 1) := by decide +kernel
theorem dX1_bestFirst_9 : decode cX1_bestFirst 9 = .ok (.iconst 0, 1) := by decide +kernel
theorem dX1_bestFirst_10 : decode cX1_bestFirst 10 = .ok (.istore 4, 2) := by decide +kernel
theorem dX1_bestFirst_12 : decode cX1_bestFirst 12 = .ok (.iload 4, 2) := by decide +kernel
theorem dX1_bestFirst_14 : decode cX1_bestFirst 14 = .ok (.iconst 4, 1) := by decide +kernel
theorem dX1_bestFirst_15 : decode cX1_bestFirst 15 = .ok (.if_icmp .ge 48, 3) := by decide +kernel
theorem dX1_bestFirst_18 : decode cX1_bestFirst 18 = .ok (.iload_n 2, 1) := by decide +kernel
theorem dX1_bestFirst_19 : decode cX1_bestFirst 19 = .ok (.iload 4, 2) := by decide +kernel
theorem dX1_bestFirst_21 : decode cX1_bestFirst 21 = .ok (.ishr, 1) := by decide +kernel
theorem dX1_bestFirst_22 : decode cX1_bestFirst 22 = .ok (.iconst 1, 1) := by decide +kernel
theorem dX1_bestFirst_23 : decode cX1_bestFirst 23 = .ok (.iand, 1) := by decide +kernel
theorem dX1_bestFirst_24 : decode cX1_bestFirst 24 = .ok (.ifCond .eq 7, 3) := by decide +kernel
theorem dX1_bestFirst_27 : decode cX1_bestFirst 27 = .ok (.iconst 1, 1) := by decide +kernel
theorem dX1_bestFirst_28 : decode cX1_bestFirst 28 = .ok (.goto 4, 3) := by decide +kernel
theorem dX1_bestFirst_31 : decode cX1_bestFirst 31 = .ok (.iconst 0, 1) := by decide +kernel
theorem dX1_bestFirst_32 : decode cX1_bestFirst 32 = .ok (.istore 5, 2) := by decide +kernel
theorem dX1_bestFirst_34 : decode cX1_bestFirst 34 = .ok (.iload 5, 2) := by decide +kernel
theorem dX1_bestFirst_36 : decode cX1_bestFirst 36 = .ok (.ifCond .eq 21, 3) := by decide +kernel
theorem dX1_bestFirst_39 : decode cX1_bestFirst 39 = .ok (.iconst 1, 1) := by decide +kernel
theorem dX1_bestFirst_40 : decode cX1_bestFirst 40 = .ok (.iload 4, 2) := by decide +kernel
theorem dX1_bestFirst_42 : decode cX1_bestFirst 42 = .ok (.ishl, 1) := by decide +kernel
theorem dX1_bestFirst_43 : decode cX1_bestFirst 43 = .ok (.iconst 0, 1) := by decide +kernel
theorem dX1_bestFirst_44 : decode cX1_bestFirst 44 = .ok (.iload_n 0, 1) := by decide +kernel
theorem dX1_bestFirst_45 : decode cX1_bestFirst 45 = .ok (.iload_n 1, 1) := by decide +kernel
theorem dX1_bestFirst_46 : decode cX1_bestFirst 46 = .ok (.iload_n 2, 1) := by decide +kernel
theorem dX1_bestFirst_47 : decode cX1_bestFirst 47 = .ok (.invokestatic 9, 3) := by decide +kernel
theorem dX1_bestFirst_50 : decode cX1_bestFirst 50 = .ok (.iload_n 3, 1) := by decide +kernel
theorem dX1_bestFirst_51 : decode cX1_bestFirst 51 = .ok (.if_icmp .ne 6, 3) := by decide +kernel
theorem dX1_bestFirst_54 : decode cX1_bestFirst 54 = .ok (.iload 4, 2) := by decide +kernel
theorem dX1_bestFirst_56 : decode cX1_bestFirst 56 = .ok (.ireturn, 1) := by decide +kernel
theorem dX1_bestFirst_57 : decode cX1_bestFirst 57 = .ok (.iinc 4 1, 3) := by decide +kernel
theorem dX1_bestFirst_60 : decode cX1_bestFirst 60 = .ok (.goto (-48), 3) := by decide +kernel
theorem dX1_bestFirst_63 : decode cX1_bestFirst 63 = .ok (.iconst (-1), 1) := by decide +kernel
theorem dX1_bestFirst_64 : decode cX1_bestFirst 64 = .ok (.ireturn, 1) := by decide +kernel
def Cr_bestFirst_57 (k12 : Int32 → Int32 → Int32 → Int32 → Int32 → Option Int32) (x0 : Int32) (x1 : Int32) (x2 : Int32) (x3 : Int32) (x4 : Int32) : Option Int32 :=
  k12 x0 x1 x2 x3 (x4 + (1 : Int32))
set_option maxRecDepth 100000 in
set_option maxHeartbeats 4000000 in
theorem t_Cr_bestFirst_57 {g : GG} {d : Nat} {μ : Mm} (hd0 : 202 ≤ d) {k12 : Int32 → Int32 → Int32 → Int32 → Int32 → Option Int32} (hk12 : ∀ (x0 : Int32) (x1 : Int32) (x2 : Int32) (x3 : Int32) (x4 : Int32) (r : Int32), k12 x0 x1 x2 x3 x4 = some r → Z g d (0, 0) mX1_bestFirst 333 0 0 12 [(0, .int x0), (1, .int x1), (2, .int x2), (3, .int x3), (4, .int x4)] [] μ (zF g (some (.int r), μ))) : ∀ (x0 : Int32) (x1 : Int32) (x2 : Int32) (x3 : Int32) (x4 : Int32) (r : Int32), Cr_bestFirst_57 k12 x0 x1 x2 x3 x4 = some r → Z g d (0, 0) mX1_bestFirst 333 0 0 57 [(0, .int x0), (1, .int x1), (2, .int x2), (3, .int x3), (4, .int x4)] [] μ (zF g (some (.int r), μ)) := by
  intro x0 x1 x2 x3 x4 r h
  unfold Cr_bestFirst_57 at h
  refine z_iinc (M := mX1_bestFirst) (v := (x4 + (1 : Int32))) (lv2 := [(4, .int (x4 + (1 : Int32))), (0, .int x0), (1, .int x1), (2, .int x2), (3, .int x3)]) dX1_bestFirst_57 4 rfl rfl (Nat.le_of_ble_eq_true rfl) rfl ?_
  refine z_goto 12 dX1_bestFirst_60 rfl ?_
  refine z_lv (lv2 := [(0, .int x0), (1, .int x1), (2, .int x2), (3, .int x3), (4, .int (x4 + (1 : Int32)))]) [1, 2, 3, 4, 0] rfl ?_
  exact hk12 x0 x1 x2 x3 (x4 + (1 : Int32)) _ h
def Cr_bestFirst_32 (k12 : Int32 → Int32 → Int32 → Int32 → Int32 → Option Int32) (x0 : Int32) (x1 : Int32) (x2 : Int32) (x3 : Int32) (x4 : Int32) (s0 : Int32) : Option Int32 :=
  (if s0 = 0 then
    Cr_bestFirst_57 k12 x0 x1 x2 x3 x4
  else
    (G_cr FR 1 ((1 : Int32) <<< (x4 &&& 31)) (0 : Int32) x0 x1 x2).bind fun v2 =>
    (if ¬ v2 = x3 then
      Cr_bestFirst_57 k12 x0 x1 x2 x3 x4
    else
      some x4))
set_option maxRecDepth 100000 in
set_option maxHeartbeats 4000000 in
theorem t_Cr_bestFirst_32 {g : GG} {d : Nat} {μ : Mm} (hd0 : 202 ≤ d) {k12 : Int32 → Int32 → Int32 → Int32 → Int32 → Option Int32} (hk12 : ∀ (x0 : Int32) (x1 : Int32) (x2 : Int32) (x3 : Int32) (x4 : Int32) (r : Int32), k12 x0 x1 x2 x3 x4 = some r → Z g d (0, 0) mX1_bestFirst 333 0 0 12 [(0, .int x0), (1, .int x1), (2, .int x2), (3, .int x3), (4, .int x4)] [] μ (zF g (some (.int r), μ))) : ∀ (x0 : Int32) (x1 : Int32) (x2 : Int32) (x3 : Int32) (x4 : Int32) (s0 : Int32) (r : Int32), Cr_bestFirst_32 k12 x0 x1 x2 x3 x4 s0 = some r → Z g d (0, 0) mX1_bestFirst 333 0 0 32 [(0, .int x0), (1, .int x1), (2, .int x2), (3, .int x3), (4, .int x4)] [.int s0] μ (zF g (some (.int r), μ)) := by
  intro x0 x1 x2 x3 x4 s0 r h
  unfold Cr_bestFirst_32 at h
  refine z_istore (M := mX1_bestFirst) (lv2 := [(5, .int s0), (0, .int x0), (1, .int x1), (2, .int x2), (3, .int x3), (4, .int x4)]) dX1_bestFirst_32 (Nat.le_of_ble_eq_true rfl) rfl ?_
  refine z_iload dX1_bestFirst_34 0 rfl ?_
  refine z_if_eq 57 dX1_bestFirst_36 rfl (fun hc1 => ?_) (fun hc1 => ?_)
  · replace h := oT hc1 h
    refine z_lv (lv2 := [(0, .int x0), (1, .int x1), (2, .int x2), (3, .int x3), (4, .int x4)]) [1, 2, 3, 4, 5] rfl ?_
    exact t_Cr_bestFirst_57 hd0 hk12 x0 x1 x2 x3 x4 _ h
  · replace h := oF hc1 h
    refine z_iconst (M := mX1_bestFirst) (v := 1) dX1_bestFirst_39 rfl ?_
    refine z_iload dX1_bestFirst_40 5 rfl ?_
    refine z_ishl dX1_bestFirst_42 ?_
    refine z_iconst (M := mX1_bestFirst) (v := 0) dX1_bestFirst_43 rfl ?_
    refine z_iload_n dX1_bestFirst_44 1 rfl ?_
    refine z_iload_n dX1_bestFirst_45 2 rfl ?_
    refine z_iload_n dX1_bestFirst_46 3 rfl ?_
    obtain ⟨v2, he2, h⟩ := obind h
    refine y_Si (M := mX1_bestFirst) (Y := mX1_behindTaking) (d2 := d - 1) (As := [.int ((1 : Int32) <<< (x4 &&& 31)), .int (0 : Int32), .int x0, .int x1, .int x2]) (st := []) dX1_bestFirst_47 mlRX1_9 cv_X1_behindTaking (ct_Cr_behindTaking (dle (Nat.le_of_ble_eq_true rfl) hd0) he2) (dps (Nat.le_of_ble_eq_true rfl) hd0) rfl rfl (Nat.le_of_ble_eq_true rfl) ?_
    refine z_iload_n dX1_bestFirst_50 4 rfl ?_
    refine z_icmp_ne 57 dX1_bestFirst_51 rfl (fun hc3 => ?_) (fun hc3 => ?_)
    · replace h := oT hc3 h
      refine z_lv (lv2 := [(0, .int x0), (1, .int x1), (2, .int x2), (3, .int x3), (4, .int x4)]) [1, 2, 3, 4, 5] rfl ?_
      exact t_Cr_bestFirst_57 hd0 hk12 x0 x1 x2 x3 x4 _ h
    · replace h := oFn hc3 h
      refine z_iload dX1_bestFirst_54 5 rfl ?_
      cases h
      exact z_iret dX1_bestFirst_56 rfl
def Cr_bestFirst_12 : Nat → Int32 → Int32 → Int32 → Int32 → Int32 → Option Int32
  | 0, _, _, _, _, _ => none
  | f + 1, x0, x1, x2, x3, x4 =>
    (if (4 : Int32) ≤ x4 then
      some (-1 : Int32)
    else
      (if ((x2 >>> (x4 &&& 31)) &&& (1 : Int32)) = 0 then
        Cr_bestFirst_32 (Cr_bestFirst_12 f) x0 x1 x2 x3 x4 (0 : Int32)
      else
        Cr_bestFirst_32 (Cr_bestFirst_12 f) x0 x1 x2 x3 x4 (1 : Int32)))
set_option maxRecDepth 100000 in
set_option maxHeartbeats 4000000 in
theorem t_Cr_bestFirst_12 {g : GG} {d : Nat} {μ : Mm} (hd0 : 202 ≤ d) : ∀ (f : Nat), ∀ (x0 : Int32) (x1 : Int32) (x2 : Int32) (x3 : Int32) (x4 : Int32) (r : Int32), Cr_bestFirst_12 f x0 x1 x2 x3 x4 = some r → Z g d (0, 0) mX1_bestFirst 333 0 0 12 [(0, .int x0), (1, .int x1), (2, .int x2), (3, .int x3), (4, .int x4)] [] μ (zF g (some (.int r), μ)) := by
  intro f
  induction f with
  | zero =>
    intro x0 x1 x2 x3 x4 r h
    cases h
  | succ f ih =>
    intro x0 x1 x2 x3 x4 r h
    rw [Cr_bestFirst_12] at h
    refine z_iload dX1_bestFirst_12 4 rfl ?_
    refine z_iconst (M := mX1_bestFirst) (v := 4) dX1_bestFirst_14 rfl ?_
    refine z_icmp_ge 63 dX1_bestFirst_15 rfl (fun hc1 => ?_) (fun hc1 => ?_)
    · replace h := oT hc1 h
      refine z_iconst (M := mX1_bestFirst) (v := -1) dX1_bestFirst_63 rfl ?_
      cases h
      exact z_iret dX1_bestFirst_64 rfl
    · replace h := oF hc1 h
      refine z_iload_n dX1_bestFirst_18 2 rfl ?_
      refine z_iload dX1_bestFirst_19 4 rfl ?_
      refine z_ishr dX1_bestFirst_21 ?_
      refine z_iconst (M := mX1_bestFirst) (v := 1) dX1_bestFirst_22 rfl ?_
      refine z_iand dX1_bestFirst_23 ?_
      refine z_if_eq 31 dX1_bestFirst_24 rfl (fun hc2 => ?_) (fun hc2 => ?_)
      · replace h := oT hc2 h
        refine z_iconst (M := mX1_bestFirst) (v := 0) dX1_bestFirst_31 rfl ?_
        exact t_Cr_bestFirst_32 hd0 ih x0 x1 x2 x3 x4 (0 : Int32) _ h
      · replace h := oF hc2 h
        refine z_iconst (M := mX1_bestFirst) (v := 1) dX1_bestFirst_27 rfl ?_
        refine z_goto 32 dX1_bestFirst_28 rfl ?_
        exact t_Cr_bestFirst_32 hd0 ih x0 x1 x2 x3 x4 (1 : Int32) _ h
def Cr_bestFirst (x0 : Int32) (x1 : Int32) (x2 : Int32) : Option Int32 :=
  (G_cr FR 0 (0 : Int32) (0 : Int32) x0 x1 x2).bind fun v1 =>
  Cr_bestFirst_12 FU x0 x1 x2 v1 (0 : Int32)
set_option maxRecDepth 100000 in
set_option maxHeartbeats 4000000 in
theorem t_Cr_bestFirst {g : GG} {d : Nat} {μ : Mm} (hd0 : 202 ≤ d) : ∀ (x0 : Int32) (x1 : Int32) (x2 : Int32) (r : Int32), Cr_bestFirst x0 x1 x2 = some r → Z g d (0, 0) mX1_bestFirst 333 0 0 0 [(0, .int x0), (1, .int x1), (2, .int x2)] [] μ (zF g (some (.int r), μ)) := by
  intro x0 x1 x2 r h
  unfold Cr_bestFirst at h
  refine z_iconst (M := mX1_bestFirst) (v := 0) dX1_bestFirst_0 rfl ?_
  refine z_iconst (M := mX1_bestFirst) (v := 0) dX1_bestFirst_1 rfl ?_
  refine z_iload_n dX1_bestFirst_2 0 rfl ?_
  refine z_iload_n dX1_bestFirst_3 1 rfl ?_
  refine z_iload_n dX1_bestFirst_4 2 rfl ?_
  obtain ⟨v1, he1, h⟩ := obind h
  refine y_Si (M := mX1_bestFirst) (Y := mX1_outcome) (d2 := d - 1) (As := [.int (0 : Int32), .int (0 : Int32), .int x0, .int x1, .int x2]) (st := []) dX1_bestFirst_5 mlRX1_21 cv_X1_outcome (ct_Cr_outcome (dle (Nat.le_of_ble_eq_true rfl) hd0) he1) (dps (Nat.le_of_ble_eq_true rfl) hd0) rfl rfl (Nat.le_of_ble_eq_true rfl) ?_
  refine z_istore_n (M := mX1_bestFirst) (lv2 := [(3, .int v1), (0, .int x0), (1, .int x1), (2, .int x2)]) dX1_bestFirst_8 (Nat.le_of_ble_eq_true rfl) rfl ?_
  refine z_iconst (M := mX1_bestFirst) (v := 0) dX1_bestFirst_9 rfl ?_
  refine z_istore (M := mX1_bestFirst) (lv2 := [(4, .int (0 : Int32)), (3, .int v1), (0, .int x0), (1, .int x1), (2, .int x2)]) dX1_bestFirst_10 (Nat.le_of_ble_eq_true rfl) rfl ?_
  refine z_lv (lv2 := [(0, .int x0), (1, .int x1), (2, .int x2), (3, .int v1), (4, .int (0 : Int32))]) [2, 3, 4, 1, 0] rfl ?_
  exact t_Cr_bestFirst_12 hd0 FU x0 x1 x2 v1 (0 : Int32) _ h
theorem ct_Cr_bestFirst {g : GG} {d : Nat} {x0 : Int32} {x1 : Int32} {x2 : Int32} {μ : Mm} {r : Int32} (hd0 : 202 ≤ d)  (h : Cr_bestFirst x0 x1 x2 = some r) : Ct g d mX1_bestFirst [.int x0, .int x1, .int x2] μ (some (.int r), μ) := y_entry in_X1_bestFirst (Nat.le_of_ble_eq_true rfl) rfl (t_Cr_bestFirst hd0 x0 x1 x2 r h)
-- FuseMinutes$Pit.copy(LFuseMinutes$Pit;)V
theorem dX2_copy_0 : decode cX2_copy 0 = .ok (.aload_n 0, 1) := by decide +kernel
theorem dX2_copy_1 : decode cX2_copy 1 = .ok (.aload_n 1, 1) := by decide +kernel
theorem dX2_copy_2 : decode cX2_copy 2 = .ok (.getfield 25, 3) := by decide +kernel
theorem dX2_copy_5 : decode cX2_copy 5 = .ok (.putfield 25, 3) := by decide +kernel
theorem dX2_copy_8 : decode cX2_copy 8 = .ok (.aload_n 0, 1) := by decide +kernel
theorem dX2_copy_9 : decode cX2_copy 9 = .ok (.aload_n 1, 1) := by decide +kernel
theorem dX2_copy_10 : decode cX2_copy 10 = .ok (.getfield 28, 3) := by decide +kernel
theorem dX2_copy_13 : decode cX2_copy 13 = .ok (.putfield 28, 3) := by decide +kernel
theorem dX2_copy_16 : decode cX2_copy 16 = .ok (.aload_n 0, 1) := by decide +kernel
theorem dX2_copy_17 : decode cX2_copy 17 = .ok (.aload_n 1, 1) := by decide +kernel
theorem dX2_copy_18 : decode cX2_copy 18 = .ok (.getfield 9, 3) := by decide +kernel
theorem dX2_copy_21 : decode cX2_copy 21 = .ok (.putfield 9, 3) := by decide +kernel
theorem dX2_copy_24 : decode cX2_copy 24 = .ok (.aload_n 0, 1) := by decide +kernel
theorem dX2_copy_25 : decode cX2_copy 25 = .ok (.aload_n 1, 1) := by decide +kernel
theorem dX2_copy_26 : decode cX2_copy 26 = .ok (.getfield 31, 3) := by decide +kernel
theorem dX2_copy_29 : decode cX2_copy 29 = .ok (.putfield 31, 3) := by decide +kernel
theorem dX2_copy_32 : decode cX2_copy 32 = .ok (.aload_n 0, 1) := by decide +kernel
theorem dX2_copy_33 : decode cX2_copy 33 = .ok (.aload_n 1, 1) := by decide +kernel
theorem dX2_copy_34 : decode cX2_copy 34 = .ok (.getfield 34, 3) := by decide +kernel
theorem dX2_copy_37 : decode cX2_copy 37 = .ok (.putfield 34, 3) := by decide +kernel
theorem dX2_copy_40 : decode cX2_copy 40 = .ok (.aload_n 1, 1) := by decide +kernel
theorem dX2_copy_41 : decode cX2_copy 41 = .ok (.getfield 15, 3) := by decide +kernel
theorem dX2_copy_44 : decode cX2_copy 44 = .ok (.iconst 0, 1) := by decide +kernel
theorem dX2_copy_45 : decode cX2_copy 45 = .ok (.aload_n 0, 1) := by decide +kernel
theorem dX2_copy_46 : decode cX2_copy 46 = .ok (.getfield 15, 3) := by decide +kernel
theorem dX2_copy_49 : decode cX2_copy 49 = .ok (.iconst 0, 1) := by decide +kernel
theorem dX2_copy_50 : decode cX2_copy 50 = .ok (.iconst 4, 1) := by decide +kernel
theorem dX2_copy_51 : decode cX2_copy 51 = .ok (.invokestatic 37, 3) := by decide +kernel
theorem dX2_copy_54 : decode cX2_copy 54 = .ok (.aload_n 1, 1) := by decide +kernel
theorem dX2_copy_55 : decode cX2_copy 55 = .ok (.getfield 19, 3) := by decide +kernel
theorem dX2_copy_58 : decode cX2_copy 58 = .ok (.iconst 0, 1) := by decide +kernel
theorem dX2_copy_59 : decode cX2_copy 59 = .ok (.aload_n 0, 1) := by decide +kernel
theorem dX2_copy_60 : decode cX2_copy 60 = .ok (.getfield 19, 3) := by decide +kernel
theorem dX2_copy_63 : decode cX2_copy 63 = .ok (.iconst 0, 1) := by decide +kernel
theorem dX2_copy_64 : decode cX2_copy 64 = .ok (.iconst 4, 1) := by decide +kernel
theorem dX2_copy_65 : decode cX2_copy 65 = .ok (.invokestatic 37, 3) := by decide +kernel
theorem dX2_copy_68 : decode cX2_copy 68 = .ok (.aload_n 1, 1) := by decide +kernel
theorem dX2_copy_69 : decode cX2_copy 69 = .ok (.getfield 22, 3) := by decide +kernel
theorem dX2_copy_72 : decode cX2_copy 72 = .ok (.iconst 0, 1) := by decide +kernel
theorem dX2_copy_73 : decode cX2_copy 73 = .ok (.aload_n 0, 1) := by decide +kernel
theorem dX2_copy_74 : decode cX2_copy 74 = .ok (.getfield 22, 3) := by decide +kernel
theorem dX2_copy_77 : decode cX2_copy 77 = .ok (.iconst 0, 1) := by decide +kernel
theorem dX2_copy_78 : decode cX2_copy 78 = .ok (.bipush 30, 2) := by decide +kernel
theorem dX2_copy_80 : decode cX2_copy 80 = .ok (.invokestatic 37, 3) := by decide +kernel
theorem dX2_copy_83 : decode cX2_copy 83 = .ok (.return_, 1) := by decide +kernel
def Pt_copy_32 (x0 : Nat) (x1 : Nat) (ν : Nm) : Option Nm :=
  some (scp (scp (scp (si ν x0 7 (gi ν x1 7)) (x1 + 1) 0 (x0 + 1) 0 4) (x1 + 2) 0 (x0 + 2) 0 4) (x1 + 3) 0 (x0 + 3) 0 30)
set_option maxRecDepth 100000 in
set_option maxHeartbeats 4000000 in
theorem t_Pt_copy_32 {g : GG} {d : Nat} (hd0 : 1 ≤ d) : ∀ (x0 : Nat) (x1 : Nat) (ν : Nm) (r : Nm), zk 333 x0 (1, 0) → zk 333 x1 (1, 0) → Pt_copy_32 x0 x1 ν = some r → Z g d (0, 0) mX2_copy 333 0 0 32 [(0, .ref x0), (1, .ref x1)] [] (zem ν) (zF g (none, zem r)) := by
  intro x0 x1 ν r hq0 hq1 h
  unfold Pt_copy_32 at h
  refine z_aload_n dX2_copy_32 0 rfl ?_
  refine z_aload_n dX2_copy_33 1 rfl ?_
  refine y_getI dX2_copy_34 hq1 flRX2_34 ?_
  refine y_putI dX2_copy_37 hq0 flRX2_34 ⟨rfl, rfl⟩ ?_
  refine z_aload_n dX2_copy_40 1 rfl ?_
  refine y_getR (M := mX2_copy) (r := (x1 + 1)) dX2_copy_41 hq1 flRX2_15 fr_1_4.1 (fr_1_4.2 _) ?_
  refine z_iconst (M := mX2_copy) (v := 0) dX2_copy_44 rfl ?_
  refine z_aload_n dX2_copy_45 0 rfl ?_
  refine y_getR (M := mX2_copy) (r := (x0 + 1)) dX2_copy_46 hq0 flRX2_15 fr_1_4.1 (fr_1_4.2 _) ?_
  refine z_iconst (M := mX2_copy) (v := 0) dX2_copy_49 rfl ?_
  refine z_iconst (M := mX2_copy) (v := 4) dX2_copy_50 rfl ?_
  refine y_copy dX2_copy_51 (cpw mlRX2_37) (zko_1_4 hq1) (zko_1_4 hq0) (by decide) (Nat.le_trans (Nat.le_of_ble_eq_true rfl) hd0) (Nat.le_of_ble_eq_true rfl) rfl rfl rfl ?_
  refine z_aload_n dX2_copy_54 1 rfl ?_
  refine y_getR (M := mX2_copy) (r := (x1 + 2)) dX2_copy_55 hq1 flRX2_19 fr_1_5.1 (fr_1_5.2 _) ?_
  refine z_iconst (M := mX2_copy) (v := 0) dX2_copy_58 rfl ?_
  refine z_aload_n dX2_copy_59 0 rfl ?_
  refine y_getR (M := mX2_copy) (r := (x0 + 2)) dX2_copy_60 hq0 flRX2_19 fr_1_5.1 (fr_1_5.2 _) ?_
  refine z_iconst (M := mX2_copy) (v := 0) dX2_copy_63 rfl ?_
  refine z_iconst (M := mX2_copy) (v := 4) dX2_copy_64 rfl ?_
  refine y_copy dX2_copy_65 (cpw mlRX2_37) (zko_1_5 hq1) (zko_1_5 hq0) (by decide) (Nat.le_trans (Nat.le_of_ble_eq_true rfl) hd0) (Nat.le_of_ble_eq_true rfl) rfl rfl rfl ?_
  refine z_aload_n dX2_copy_68 1 rfl ?_
  refine y_getR (M := mX2_copy) (r := (x1 + 3)) dX2_copy_69 hq1 flRX2_22 fr_1_6.1 (fr_1_6.2 _) ?_
  refine z_iconst (M := mX2_copy) (v := 0) dX2_copy_72 rfl ?_
  refine z_aload_n dX2_copy_73 0 rfl ?_
  refine y_getR (M := mX2_copy) (r := (x0 + 3)) dX2_copy_74 hq0 flRX2_22 fr_1_6.1 (fr_1_6.2 _) ?_
  refine z_iconst (M := mX2_copy) (v := 0) dX2_copy_77 rfl ?_
  refine z_bipush (M := mX2_copy) (v := 30) dX2_copy_78 rfl ?_
  refine y_copy dX2_copy_80 (cpw mlRX2_37) (zko_1_6 hq1) (zko_1_6 hq0) (by decide) (Nat.le_trans (Nat.le_of_ble_eq_true rfl) hd0) (Nat.le_of_ble_eq_true rfl) rfl rfl rfl ?_
  cases h
  exact z_vret dX2_copy_83 rfl
def Pt_copy (x0 : Nat) (x1 : Nat) (ν : Nm) : Option Nm :=
  Pt_copy_32 x0 x1 (si (si (si (si ν x0 0 (gi ν x1 0)) x0 1 (gi (si ν x0 0 (gi ν x1 0)) x1 1)) x0 2 (gi (si (si ν x0 0 (gi ν x1 0)) x0 1 (gi (si ν x0 0 (gi ν x1 0)) x1 1)) x1 2)) x0 3 (gi (si (si (si ν x0 0 (gi ν x1 0)) x0 1 (gi (si ν x0 0 (gi ν x1 0)) x1 1)) x0 2 (gi (si (si ν x0 0 (gi ν x1 0)) x0 1 (gi (si ν x0 0 (gi ν x1 0)) x1 1)) x1 2)) x1 3))
set_option maxRecDepth 100000 in
set_option maxHeartbeats 4000000 in
theorem t_Pt_copy {g : GG} {d : Nat} (hd0 : 1 ≤ d) : ∀ (x0 : Nat) (x1 : Nat) (ν : Nm) (r : Nm), zk 333 x0 (1, 0) → zk 333 x1 (1, 0) → Pt_copy x0 x1 ν = some r → Z g d (0, 0) mX2_copy 333 0 0 0 [(0, .ref x0), (1, .ref x1)] [] (zem ν) (zF g (none, zem r)) := by
  intro x0 x1 ν r hq0 hq1 h
  unfold Pt_copy at h
  refine z_aload_n dX2_copy_0 0 rfl ?_
  refine z_aload_n dX2_copy_1 1 rfl ?_
  refine y_getI dX2_copy_2 hq1 flRX2_25 ?_
  refine y_putI dX2_copy_5 hq0 flRX2_25 ⟨rfl, rfl⟩ ?_
  refine z_aload_n dX2_copy_8 0 rfl ?_
  refine z_aload_n dX2_copy_9 1 rfl ?_
  refine y_getI dX2_copy_10 hq1 flRX2_28 ?_
  refine y_putI dX2_copy_13 hq0 flRX2_28 ⟨rfl, rfl⟩ ?_
  refine z_aload_n dX2_copy_16 0 rfl ?_
  refine z_aload_n dX2_copy_17 1 rfl ?_
  refine y_getI dX2_copy_18 hq1 flRX2_9 ?_
  refine y_putI dX2_copy_21 hq0 flRX2_9 ⟨rfl, rfl⟩ ?_
  refine z_aload_n dX2_copy_24 0 rfl ?_
  refine z_aload_n dX2_copy_25 1 rfl ?_
  refine y_getI dX2_copy_26 hq1 flRX2_31 ?_
  refine y_putI dX2_copy_29 hq0 flRX2_31 ⟨rfl, rfl⟩ ?_
  exact t_Pt_copy_32 hd0  x0 x1 (si (si (si (si ν x0 0 (gi ν x1 0)) x0 1 (gi (si ν x0 0 (gi ν x1 0)) x1 1)) x0 2 (gi (si (si ν x0 0 (gi ν x1 0)) x0 1 (gi (si ν x0 0 (gi ν x1 0)) x1 1)) x1 2)) x0 3 (gi (si (si (si ν x0 0 (gi ν x1 0)) x0 1 (gi (si ν x0 0 (gi ν x1 0)) x1 1)) x0 2 (gi (si (si ν x0 0 (gi ν x1 0)) x0 1 (gi (si ν x0 0 (gi ν x1 0)) x1 1)) x1 2)) x1 3)) _ hq0 hq1 h
theorem ct_Pt_copy {g : GG} {d : Nat} {x0 : Nat} {x1 : Nat} {ν : Nm} {r : Nm} (hd0 : 1 ≤ d) (hq0 : zk 333 x0 (1, 0)) (hq1 : zk 333 x1 (1, 0)) (h : Pt_copy x0 x1 ν = some r) : Ct g d mX2_copy [.ref x0, .ref x1] (zem ν) (none, zem r) := y_entry in_X2_copy (Nat.le_of_ble_eq_true rfl) rfl (t_Pt_copy hd0 x0 x1 ν r hq0 hq1 h)
-- FuseMinutes$Pit.has(I)Z
theorem dX2_has_0 : decode cX2_has 0 = .ok (.iload_n 1, 1) := by decide +kernel
theorem dX2_has_1 : decode cX2_has 1 = .ok (.ifCond .lt 20, 3) := by decide +kernel
theorem dX2_has_4 : decode cX2_has 4 = .ok (.iload_n 1, 1) := by decide +kernel
theorem dX2_has_5 : decode cX2_has 5 = .ok (.aload_n 0, 1) := by decide +kernel
theorem dX2_has_6 : decode cX2_has 6 = .ok (.getfield 25, 3) := by decide +kernel
theorem dX2_has_9 : decode cX2_has 9 = .ok (.if_icmp .ge 12, 3) := by decide +kernel
theorem dX2_has_12 : decode cX2_has 12 = .ok (.iload_n 1, 1) := by decide +kernel
theorem dX2_has_13 : decode cX2_has 13 = .ok (.iconst 4, 1) := by decide +kernel
theorem dX2_has_14 : decode cX2_has 14 = .ok (.if_icmp .ge 7, 3) := by decide +kernel
theorem dX2_has_17 : decode cX2_has 17 = .ok (.iconst 1, 1) := by decide +kernel
theorem dX2_has_18 : decode cX2_has 18 = .ok (.goto 4, 3) := by decide +kernel
theorem dX2_has_21 : decode cX2_has 21 = .ok (.iconst 0, 1) := by decide +kernel
theorem dX2_has_22 : decode cX2_has 22 = .ok (.ireturn, 1) := by decide +kernel
def Pt_has (ν : Nm) (x0 : Nat) (x1 : Int32) : Option Bool :=
  (if x1 < 0 then
    some false
  else
    (if (gi ν x0 0) ≤ x1 then
      some false
    else
      (if (4 : Int32) ≤ x1 then
        some false
      else
        some true)))
set_option maxRecDepth 100000 in
set_option maxHeartbeats 4000000 in
theorem t_Pt_has {g : GG} {d : Nat} {ν : Nm} (hd0 : 1 ≤ d) : ∀ (x0 : Nat) (x1 : Int32) (r : Bool), zk 333 x0 (1, 0) → Pt_has ν x0 x1 = some r → Z g d (0, 0) mX2_has 333 0 0 0 [(0, .ref x0), (1, .int x1)] [] (zem ν) (zF g (some (.int (b2i r)), zem ν)) := by
  intro x0 x1 r hq0 h
  unfold Pt_has at h
  refine z_iload_n dX2_has_0 1 rfl ?_
  refine z_if_lt 21 dX2_has_1 rfl (fun hc1 => ?_) (fun hc1 => ?_)
  · replace h := oT hc1 h
    refine z_iconst (M := mX2_has) (v := 0) dX2_has_21 rfl ?_
    cases h
    exact z_zret dX2_has_22 rfl rfl
  · replace h := oF hc1 h
    refine z_iload_n dX2_has_4 1 rfl ?_
    refine z_aload_n dX2_has_5 0 rfl ?_
    refine y_getI dX2_has_6 hq0 flRX2_25 ?_
    refine z_icmp_ge 21 dX2_has_9 rfl (fun hc2 => ?_) (fun hc2 => ?_)
    · replace h := oT hc2 h
      refine z_iconst (M := mX2_has) (v := 0) dX2_has_21 rfl ?_
      cases h
      exact z_zret dX2_has_22 rfl rfl
    · replace h := oF hc2 h
      refine z_iload_n dX2_has_12 1 rfl ?_
      refine z_iconst (M := mX2_has) (v := 4) dX2_has_13 rfl ?_
      refine z_icmp_ge 21 dX2_has_14 rfl (fun hc3 => ?_) (fun hc3 => ?_)
      · replace h := oT hc3 h
        refine z_iconst (M := mX2_has) (v := 0) dX2_has_21 rfl ?_
        cases h
        exact z_zret dX2_has_22 rfl rfl
      · replace h := oF hc3 h
        refine z_iconst (M := mX2_has) (v := 1) dX2_has_17 rfl ?_
        refine z_goto 22 dX2_has_18 rfl ?_
        cases h
        exact z_zret dX2_has_22 rfl rfl
theorem ct_Pt_has {g : GG} {d : Nat} {x0 : Nat} {x1 : Int32} {ν : Nm} {r : Bool} (hd0 : 1 ≤ d) (hq0 : zk 333 x0 (1, 0)) (h : Pt_has ν x0 x1 = some r) : Ct g d mX2_has [.ref x0, .int x1] (zem ν) (some (.int (b2i r)), zem ν) := y_entry in_X2_has (Nat.le_of_ble_eq_true rfl) rfl (t_Pt_has hd0 x0 x1 r hq0 h)
-- FuseMinutes$Pit.makeNew(II)V
theorem dX2_makeNew_0 : decode cX2_makeNew 0 = .ok (.aload_n 0, 1) := by decide +kernel
theorem dX2_makeNew_1 : decode cX2_makeNew 1 = .ok (.getfield 15, 3) := by decide +kernel
theorem dX2_makeNew_4 : decode cX2_makeNew 4 = .ok (.iload_n 1, 1) := by decide +kernel
theorem dX2_makeNew_5 : decode cX2_makeNew 5 = .ok (.iload_n 2, 1) := by decide +kernel
theorem dX2_makeNew_6 : decode cX2_makeNew 6 = .ok (.bipush 64, 2) := by decide +kernel
theorem dX2_makeNew_8 : decode cX2_makeNew 8 = .ok (.imul, 1) := by decide +kernel
theorem dX2_makeNew_9 : decode cX2_makeNew 9 = .ok (.iastore, 1) := by decide +kernel
theorem dX2_makeNew_10 : decode cX2_makeNew 10 = .ok (.aload_n 0, 1) := by decide +kernel
theorem dX2_makeNew_11 : decode cX2_makeNew 11 = .ok (.getfield 19, 3) := by decide +kernel
theorem dX2_makeNew_14 : decode cX2_makeNew 14 = .ok (.iload_n 1, 1) := by decide +kernel
theorem dX2_makeNew_15 : decode cX2_makeNew 15 = .ok (.iconst 0, 1) := by decide +kernel
theorem dX2_makeNew_16 : decode cX2_makeNew 16 = .ok (.iastore, 1) := by decide +kernel
theorem dX2_makeNew_17 : decode cX2_makeNew 17 = .ok (.return_, 1) := by decide +kernel
def Pt_makeNew (x0 : Nat) (x1 : Int32) (x2 : Int32) (ν : Nm) : Option Nm :=
  if inb x1 4 then
  if inb x1 4 then
  some (si (si ν (x0 + 1) x1.toNatClampNeg (x2 * (64 : Int32))) (x0 + 2) x1.toNatClampNeg (0 : Int32))
  else none
  else none
set_option maxRecDepth 100000 in
set_option maxHeartbeats 4000000 in
theorem t_Pt_makeNew {g : GG} {d : Nat} (hd0 : 1 ≤ d) : ∀ (x0 : Nat) (x1 : Int32) (x2 : Int32) (ν : Nm) (r : Nm), zk 333 x0 (1, 0) → Pt_makeNew x0 x1 x2 ν = some r → Z g d (0, 0) mX2_makeNew 333 0 0 0 [(0, .ref x0), (1, .int x1), (2, .int x2)] [] (zem ν) (zF g (none, zem r)) := by
  intro x0 x1 x2 ν r hq0 h
  unfold Pt_makeNew at h
  refine z_aload_n dX2_makeNew_0 0 rfl ?_
  refine y_getR (M := mX2_makeNew) (r := (x0 + 1)) dX2_makeNew_1 hq0 flRX2_15 fr_1_4.1 (fr_1_4.2 _) ?_
  refine z_iload_n dX2_makeNew_4 1 rfl ?_
  refine z_iload_n dX2_makeNew_5 2 rfl ?_
  refine z_bipush (M := mX2_makeNew) (v := 64) dX2_makeNew_6 rfl ?_
  refine z_imul dX2_makeNew_8 ?_
  obtain ⟨hi1, h⟩ := oif h
  refine y_iast (M := mX2_makeNew) (jj := x1.toNatClampNeg) dX2_makeNew_9 (zko_1_4 hq0) hi1 rfl ?_
  refine z_aload_n dX2_makeNew_10 0 rfl ?_
  refine y_getR (M := mX2_makeNew) (r := (x0 + 2)) dX2_makeNew_11 hq0 flRX2_19 fr_1_5.1 (fr_1_5.2 _) ?_
  refine z_iload_n dX2_makeNew_14 1 rfl ?_
  refine z_iconst (M := mX2_makeNew) (v := 0) dX2_makeNew_15 rfl ?_
  obtain ⟨hi2, h⟩ := oif h
  refine y_iast (M := mX2_makeNew) (jj := x1.toNatClampNeg) dX2_makeNew_16 (zko_1_5 hq0) hi2 rfl ?_
  cases h
  exact z_vret dX2_makeNew_17 rfl
theorem ct_Pt_makeNew {g : GG} {d : Nat} {x0 : Nat} {x1 : Int32} {x2 : Int32} {ν : Nm} {r : Nm} (hd0 : 1 ≤ d) (hq0 : zk 333 x0 (1, 0)) (h : Pt_makeNew x0 x1 x2 ν = some r) : Ct g d mX2_makeNew [.ref x0, .int x1, .int x2] (zem ν) (none, zem r) := y_entry in_X2_makeNew (Nat.le_of_ble_eq_true rfl) rfl (t_Pt_makeNew hd0 x0 x1 x2 ν r hq0 h)
-- FuseMinutes$Pit.lay(I)V
theorem dX2_lay_0 : decode cX2_lay 0 = .ok (.aload_n 0, 1) := by decide +kernel
theorem dX2_lay_1 : decode cX2_lay 1 = .ok (.getfield 25, 3) := by decide +kernel
theorem dX2_lay_4 : decode cX2_lay 4 = .ok (.iconst 4, 1) := by decide +kernel
theorem dX2_lay_5 : decode cX2_lay 5 = .ok (.if_icmp .ge 22, 3) := by decide +kernel
theorem dX2_lay_8 : decode cX2_lay 8 = .ok (.aload_n 0, 1) := by decide +kernel
theorem dX2_lay_9 : decode cX2_lay 9 = .ok (.aload_n 0, 1) := by decide +kernel
theorem dX2_lay_10 : decode cX2_lay 10 = .ok (.getfield 25, 3) := by decide +kernel
theorem dX2_lay_13 : decode cX2_lay 13 = .ok (.iload_n 1, 1) := by decide +kernel
theorem dX2_lay_14 : decode cX2_lay 14 = .ok (.invokevirtual 43, 3) := by decide +kernel
theorem dX2_lay_17 : decode cX2_lay 17 = .ok (.aload_n 0, 1) := by decide +kernel
theorem dX2_lay_18 : decode cX2_lay 18 = .ok (.dup, 1) := by decide +kernel
theorem dX2_lay_19 : decode cX2_lay 19 = .ok (.getfield 25, 3) := by decide +kernel
theorem dX2_lay_22 : decode cX2_lay 22 = .ok (.iconst 1, 1) := by decide +kernel
theorem dX2_lay_23 : decode cX2_lay 23 = .ok (.iadd, 1) := by decide +kernel
theorem dX2_lay_24 : decode cX2_lay 24 = .ok (.putfield 25, 3) := by decide +kernel
theorem dX2_lay_27 : decode cX2_lay 27 = .ok (.return_, 1) := by decide +kernel
def Pt_lay (x0 : Nat) (x1 : Int32) (ν : Nm) : Option Nm :=
  (if (4 : Int32) ≤ (gi ν x0 0) then
    some ν
  else
    (Pt_makeNew x0 (gi ν x0 0) x1 ν).bind fun v2 =>
    some (si v2 x0 0 ((gi v2 x0 0) + (1 : Int32))))
set_option maxRecDepth 100000 in
set_option maxHeartbeats 4000000 in
theorem t_Pt_lay {g : GG} {d : Nat} (hd0 : 2 ≤ d) : ∀ (x0 : Nat) (x1 : Int32) (ν : Nm) (r : Nm), zk 333 x0 (1, 0) → Pt_lay x0 x1 ν = some r → Z g d (0, 0) mX2_lay 333 0 0 0 [(0, .ref x0), (1, .int x1)] [] (zem ν) (zF g (none, zem r)) := by
  intro x0 x1 ν r hq0 h
  unfold Pt_lay at h
  refine z_aload_n dX2_lay_0 0 rfl ?_
  refine y_getI dX2_lay_1 hq0 flRX2_25 ?_
  refine z_iconst (M := mX2_lay) (v := 4) dX2_lay_4 rfl ?_
  refine z_icmp_ge 27 dX2_lay_5 rfl (fun hc1 => ?_) (fun hc1 => ?_)
  · replace h := oT hc1 h
    cases h
    exact z_vret dX2_lay_27 rfl
  · replace h := oF hc1 h
    refine z_aload_n dX2_lay_8 0 rfl ?_
    refine z_aload_n dX2_lay_9 0 rfl ?_
    refine y_getI dX2_lay_10 hq0 flRX2_25 ?_
    refine z_iload_n dX2_lay_13 1 rfl ?_
    obtain ⟨v2, he2, h⟩ := obind h
    refine y_Vv (M := mX2_lay) (Y := mX2_makeNew) (d2 := d - 1) (As := [.int (gi ν x0 0), .int x1]) (st := []) dX2_lay_14 mlRX2_43 cv_X2_makeNew hq0 (ct_Pt_makeNew (dle (Nat.le_of_ble_eq_true rfl) hd0) hq0 he2) (dps (Nat.le_of_ble_eq_true rfl) hd0) rfl rfl (Nat.le_of_ble_eq_true rfl) ?_
    refine z_aload_n dX2_lay_17 0 rfl ?_
    refine z_dup dX2_lay_18 rfl ?_
    refine y_getI dX2_lay_19 hq0 flRX2_25 ?_
    refine z_iconst (M := mX2_lay) (v := 1) dX2_lay_22 rfl ?_
    refine z_iadd dX2_lay_23 ?_
    refine y_putI dX2_lay_24 hq0 flRX2_25 ⟨rfl, rfl⟩ ?_
    cases h
    exact z_vret dX2_lay_27 rfl
theorem ct_Pt_lay {g : GG} {d : Nat} {x0 : Nat} {x1 : Int32} {ν : Nm} {r : Nm} (hd0 : 2 ≤ d) (hq0 : zk 333 x0 (1, 0)) (h : Pt_lay x0 x1 ν = some r) : Ct g d mX2_lay [.ref x0, .int x1] (zem ν) (none, zem r) := y_entry in_X2_lay (Nat.le_of_ble_eq_true rfl) rfl (t_Pt_lay hd0 x0 x1 ν r hq0 h)
-- FuseMinutes$Pit.burns(II)Z
theorem dX2_burns_0 : decode cX2_burns 0 = .ok (.aload_n 0, 1) := by decide +kernel
theorem dX2_burns_1 : decode cX2_burns 1 = .ok (.iload_n 1, 1) := by decide +kernel
theorem dX2_burns_2 : decode cX2_burns 2 = .ok (.invokevirtual 47, 3) := by decide +kernel
theorem dX2_burns_5 : decode cX2_burns 5 = .ok (.ifCond .eq 20, 3) := by decide +kernel
theorem dX2_burns_8 : decode cX2_burns 8 = .ok (.aload_n 0, 1) := by decide +kernel
theorem dX2_burns_9 : decode cX2_burns 9 = .ok (.getfield 19, 3) := by decide +kernel
theorem dX2_burns_12 : decode cX2_burns 12 = .ok (.iload_n 1, 1) := by decide +kernel
theorem dX2_burns_13 : decode cX2_burns 13 = .ok (.iaload, 1) := by decide +kernel
theorem dX2_burns_14 : decode cX2_burns 14 = .ok (.iload_n 2, 1) := by decide +kernel
theorem dX2_burns_15 : decode cX2_burns 15 = .ok (.ishr, 1) := by decide +kernel
theorem dX2_burns_16 : decode cX2_burns 16 = .ok (.iconst 1, 1) := by decide +kernel
theorem dX2_burns_17 : decode cX2_burns 17 = .ok (.iand, 1) := by decide +kernel
theorem dX2_burns_18 : decode cX2_burns 18 = .ok (.ifCond .eq 7, 3) := by decide +kernel
theorem dX2_burns_21 : decode cX2_burns 21 = .ok (.iconst 1, 1) := by decide +kernel
theorem dX2_burns_22 : decode cX2_burns 22 = .ok (.goto 4, 3) := by decide +kernel
theorem dX2_burns_25 : decode cX2_burns 25 = .ok (.iconst 0, 1) := by decide +kernel
theorem dX2_burns_26 : decode cX2_burns 26 = .ok (.ireturn, 1) := by decide +kernel
def Pt_burns (ν : Nm) (x0 : Nat) (x1 : Int32) (x2 : Int32) : Option Bool :=
  (Pt_has ν x0 x1).bind fun v1 =>
  (if (b2i v1) = 0 then
    some false
  else
    if inb x1 4 then
    (if (((gi ν (x0 + 2) x1.toNatClampNeg) >>> (x2 &&& 31)) &&& (1 : Int32)) = 0 then
      some false
    else
      some true)
    else none)
set_option maxRecDepth 100000 in
set_option maxHeartbeats 4000000 in
theorem t_Pt_burns {g : GG} {d : Nat} {ν : Nm} (hd0 : 2 ≤ d) : ∀ (x0 : Nat) (x1 : Int32) (x2 : Int32) (r : Bool), zk 333 x0 (1, 0) → Pt_burns ν x0 x1 x2 = some r → Z g d (0, 0) mX2_burns 333 0 0 0 [(0, .ref x0), (1, .int x1), (2, .int x2)] [] (zem ν) (zF g (some (.int (b2i r)), zem ν)) := by
  intro x0 x1 x2 r hq0 h
  unfold Pt_burns at h
  refine z_aload_n dX2_burns_0 0 rfl ?_
  refine z_iload_n dX2_burns_1 1 rfl ?_
  obtain ⟨v1, he1, h⟩ := obind h
  refine y_Vi (M := mX2_burns) (Y := mX2_has) (d2 := d - 1) (As := [.int x1]) (st := []) dX2_burns_2 mlRX2_47 cv_X2_has hq0 (ct_Pt_has (dle (Nat.le_of_ble_eq_true rfl) hd0) hq0 he1) (dps (Nat.le_of_ble_eq_true rfl) hd0) rfl rfl (Nat.le_of_ble_eq_true rfl) ?_
  refine z_if_eq 25 dX2_burns_5 rfl (fun hc2 => ?_) (fun hc2 => ?_)
  · replace h := oT hc2 h
    refine z_iconst (M := mX2_burns) (v := 0) dX2_burns_25 rfl ?_
    cases h
    exact z_zret dX2_burns_26 rfl rfl
  · replace h := oF hc2 h
    refine z_aload_n dX2_burns_8 0 rfl ?_
    refine y_getR (M := mX2_burns) (r := (x0 + 2)) dX2_burns_9 hq0 flRX2_19 fr_1_5.1 (fr_1_5.2 _) ?_
    refine z_iload_n dX2_burns_12 1 rfl ?_
    obtain ⟨hi3, h⟩ := oif h
    refine y_iald (M := mX2_burns) (jj := x1.toNatClampNeg) dX2_burns_13 (zko_1_5 hq0) hi3 rfl ?_
    refine z_iload_n dX2_burns_14 2 rfl ?_
    refine z_ishr dX2_burns_15 ?_
    refine z_iconst (M := mX2_burns) (v := 1) dX2_burns_16 rfl ?_
    refine z_iand dX2_burns_17 ?_
    refine z_if_eq 25 dX2_burns_18 rfl (fun hc4 => ?_) (fun hc4 => ?_)
    · replace h := oT hc4 h
      refine z_iconst (M := mX2_burns) (v := 0) dX2_burns_25 rfl ?_
      cases h
      exact z_zret dX2_burns_26 rfl rfl
    · replace h := oF hc4 h
      refine z_iconst (M := mX2_burns) (v := 1) dX2_burns_21 rfl ?_
      refine z_goto 26 dX2_burns_22 rfl ?_
      cases h
      exact z_zret dX2_burns_26 rfl rfl
theorem ct_Pt_burns {g : GG} {d : Nat} {x0 : Nat} {x1 : Int32} {x2 : Int32} {ν : Nm} {r : Bool} (hd0 : 2 ≤ d) (hq0 : zk 333 x0 (1, 0)) (h : Pt_burns ν x0 x1 x2 = some r) : Ct g d mX2_burns [.ref x0, .int x1, .int x2] (zem ν) (some (.int (b2i r)), zem ν) := y_entry in_X2_burns (Nat.le_of_ble_eq_true rfl) rfl (t_Pt_burns hd0 x0 x1 x2 r hq0 h)
-- FuseMinutes$Pit.writeDown(III)V
theorem dX2_writeDown_0 : decode cX2_writeDown 0 = .ok (.aload_n 0, 1) := by decide +kernel
theorem dX2_writeDown_1 : decode cX2_writeDown 1 = .ok (.getfield 34, 3) := by decide +kernel
theorem dX2_writeDown_4 : decode cX2_writeDown 4 = .ok (.bipush 30, 2) := by decide +kernel
theorem dX2_writeDown_6 : decode cX2_writeDown 6 = .ok (.if_icmp .lt 24, 3) := by decide +kernel
theorem dX2_writeDown_9 : decode cX2_writeDown 9 = .ok (.aload_n 0, 1) := by decide +kernel
theorem dX2_writeDown_10 : decode cX2_writeDown 10 = .ok (.getfield 22, 3) := by decide +kernel
theorem dX2_writeDown_13 : decode cX2_writeDown 13 = .ok (.iconst 1, 1) := by decide +kernel
theorem dX2_writeDown_14 : decode cX2_writeDown 14 = .ok (.aload_n 0, 1) := by decide +kernel
theorem dX2_writeDown_15 : decode cX2_writeDown 15 = .ok (.getfield 22, 3) := by decide +kernel
theorem dX2_writeDown_18 : decode cX2_writeDown 18 = .ok (.iconst 0, 1) := by decide +kernel
theorem dX2_writeDown_19 : decode cX2_writeDown 19 = .ok (.bipush 29, 2) := by decide +kernel
theorem dX2_writeDown_21 : decode cX2_writeDown 21 = .ok (.invokestatic 37, 3) := by decide +kernel
theorem dX2_writeDown_24 : decode cX2_writeDown 24 = .ok (.aload_n 0, 1) := by decide +kernel
theorem dX2_writeDown_25 : decode cX2_writeDown 25 = .ok (.bipush 29, 2) := by decide +kernel
theorem dX2_writeDown_27 : decode cX2_writeDown 27 = .ok (.putfield 34, 3) := by decide +kernel
theorem dX2_writeDown_30 : decode cX2_writeDown 30 = .ok (.aload_n 0, 1) := by decide +kernel
theorem dX2_writeDown_31 : decode cX2_writeDown 31 = .ok (.getfield 22, 3) := by decide +kernel
theorem dX2_writeDown_34 : decode cX2_writeDown 34 = .ok (.aload_n 0, 1) := by decide +kernel
theorem dX2_writeDown_35 : decode cX2_writeDown 35 = .ok (.getfield 34, 3) := by decide +kernel
theorem dX2_writeDown_38 : decode cX2_writeDown 38 = .ok (.aload_n 0, 1) := by decide +kernel
theorem dX2_writeDown_39 : decode cX2_writeDown 39 = .ok (.getfield 28, 3) := by decide +kernel
theorem dX2_writeDown_42 : decode cX2_writeDown 42 = .ok (.iconst 5, 1) := by decide +kernel
theorem dX2_writeDown_43 : decode cX2_writeDown 43 = .ok (.ishl, 1) := by decide +kernel
theorem dX2_writeDown_44 : decode cX2_writeDown 44 = .ok (.iload_n 1, 1) := by decide +kernel
theorem dX2_writeDown_45 : decode cX2_writeDown 45 = .ok (.iconst 3, 1) := by decide +kernel
theorem dX2_writeDown_46 : decode cX2_writeDown 46 = .ok (.ishl, 1) := by decide +kernel
theorem dX2_writeDown_47 : decode cX2_writeDown 47 = .ok (.ior, 1) := by decide +kernel
theorem dX2_writeDown_48 : decode cX2_writeDown 48 = .ok (.iload_n 2, 1) := by decide +kernel
theorem dX2_writeDown_49 : decode cX2_writeDown 49 = .ok (.iconst 1, 1) := by decide +kernel
theorem dX2_writeDown_50 : decode cX2_writeDown 50 = .ok (.ishl, 1) := by decide +kernel
theorem dX2_writeDown_51 : decode cX2_writeDown 51 = .ok (.ior, 1) := by decide +kernel
theorem dX2_writeDown_52 : decode cX2_writeDown 52 = .ok (.iload_n 3, 1) := by decide +kernel
theorem dX2_writeDown_53 : decode cX2_writeDown 53 = .ok (.ior, 1) := by decide +kernel
theorem dX2_writeDown_54 : decode cX2_writeDown 54 = .ok (.iastore, 1) := by decide +kernel
theorem dX2_writeDown_55 : decode cX2_writeDown 55 = .ok (.aload_n 0, 1) := by decide +kernel
theorem dX2_writeDown_56 : decode cX2_writeDown 56 = .ok (.dup, 1) := by decide +kernel
theorem dX2_writeDown_57 : decode cX2_writeDown 57 = .ok (.getfield 34, 3) := by decide +kernel
theorem dX2_writeDown_60 : decode cX2_writeDown 60 = .ok (.iconst 1, 1) := by decide +kernel
theorem dX2_writeDown_61 : decode cX2_writeDown 61 = .ok (.iadd, 1) := by decide +kernel
theorem dX2_writeDown_62 : decode cX2_writeDown 62 = .ok (.putfield 34, 3) := by decide +kernel
theorem dX2_writeDown_65 : decode cX2_writeDown 65 = .ok (.return_, 1) := by decide +kernel
def Pt_writeDown_65 (ν : Nm) : Option Nm :=
  some ν
set_option maxRecDepth 100000 in
set_option maxHeartbeats 4000000 in
theorem t_Pt_writeDown_65 {g : GG} {d : Nat} (hd0 : 1 ≤ d) : ∀ (ν : Nm) (r : Nm), Pt_writeDown_65 ν = some r → Z g d (0, 0) mX2_writeDown 333 0 0 65 [] [] (zem ν) (zF g (none, zem r)) := by
  intro ν r h
  unfold Pt_writeDown_65 at h
  cases h
  exact z_vret dX2_writeDown_65 rfl
def Pt_writeDown_30 (x0 : Nat) (x1 : Int32) (x2 : Int32) (x3 : Int32) (ν : Nm) : Option Nm :=
  if inb (gi ν x0 7) 30 then
  Pt_writeDown_65 (si (si ν (x0 + 3) (gi ν x0 7).toNatClampNeg (((((gi ν x0 1) <<< ((5 : Int32) &&& 31)) ||| (x1 <<< ((3 : Int32) &&& 31))) ||| (x2 <<< ((1 : Int32) &&& 31))) ||| x3)) x0 7 ((gi (si ν (x0 + 3) (gi ν x0 7).toNatClampNeg (((((gi ν x0 1) <<< ((5 : Int32) &&& 31)) ||| (x1 <<< ((3 : Int32) &&& 31))) ||| (x2 <<< ((1 : Int32) &&& 31))) ||| x3)) x0 7) + (1 : Int32)))
  else none
set_option maxRecDepth 100000 in
set_option maxHeartbeats 4000000 in
theorem t_Pt_writeDown_30 {g : GG} {d : Nat} (hd0 : 1 ≤ d) : ∀ (x0 : Nat) (x1 : Int32) (x2 : Int32) (x3 : Int32) (ν : Nm) (r : Nm), zk 333 x0 (1, 0) → Pt_writeDown_30 x0 x1 x2 x3 ν = some r → Z g d (0, 0) mX2_writeDown 333 0 0 30 [(0, .ref x0), (1, .int x1), (2, .int x2), (3, .int x3)] [] (zem ν) (zF g (none, zem r)) := by
  intro x0 x1 x2 x3 ν r hq0 h
  unfold Pt_writeDown_30 at h
  refine z_aload_n dX2_writeDown_30 0 rfl ?_
  refine y_getR (M := mX2_writeDown) (r := (x0 + 3)) dX2_writeDown_31 hq0 flRX2_22 fr_1_6.1 (fr_1_6.2 _) ?_
  refine z_aload_n dX2_writeDown_34 0 rfl ?_
  refine y_getI dX2_writeDown_35 hq0 flRX2_34 ?_
  refine z_aload_n dX2_writeDown_38 0 rfl ?_
  refine y_getI dX2_writeDown_39 hq0 flRX2_28 ?_
  refine z_iconst (M := mX2_writeDown) (v := 5) dX2_writeDown_42 rfl ?_
  refine z_ishl dX2_writeDown_43 ?_
  refine z_iload_n dX2_writeDown_44 1 rfl ?_
  refine z_iconst (M := mX2_writeDown) (v := 3) dX2_writeDown_45 rfl ?_
  refine z_ishl dX2_writeDown_46 ?_
  refine z_ior dX2_writeDown_47 ?_
  refine z_iload_n dX2_writeDown_48 2 rfl ?_
  refine z_iconst (M := mX2_writeDown) (v := 1) dX2_writeDown_49 rfl ?_
  refine z_ishl dX2_writeDown_50 ?_
  refine z_ior dX2_writeDown_51 ?_
  refine z_iload_n dX2_writeDown_52 3 rfl ?_
  refine z_ior dX2_writeDown_53 ?_
  obtain ⟨hi1, h⟩ := oif h
  refine y_iast (M := mX2_writeDown) (jj := (gi ν x0 7).toNatClampNeg) dX2_writeDown_54 (zko_1_6 hq0) hi1 rfl ?_
  refine z_aload_n dX2_writeDown_55 0 rfl ?_
  refine z_dup dX2_writeDown_56 rfl ?_
  refine y_getI dX2_writeDown_57 hq0 flRX2_34 ?_
  refine z_iconst (M := mX2_writeDown) (v := 1) dX2_writeDown_60 rfl ?_
  refine z_iadd dX2_writeDown_61 ?_
  refine y_putI dX2_writeDown_62 hq0 flRX2_34 ⟨rfl, rfl⟩ ?_
  refine z_lv (lv2 := []) [] rfl ?_
  exact t_Pt_writeDown_65 hd0  (si (si ν (x0 + 3) (gi ν x0 7).toNatClampNeg (((((gi ν x0 1) <<< ((5 : Int32) &&& 31)) ||| (x1 <<< ((3 : Int32) &&& 31))) ||| (x2 <<< ((1 : Int32) &&& 31))) ||| x3)) x0 7 ((gi (si ν (x0 + 3) (gi ν x0 7).toNatClampNeg (((((gi ν x0 1) <<< ((5 : Int32) &&& 31)) ||| (x1 <<< ((3 : Int32) &&& 31))) ||| (x2 <<< ((1 : Int32) &&& 31))) ||| x3)) x0 7) + (1 : Int32))) _ h
def Pt_writeDown (x0 : Nat) (x1 : Int32) (x2 : Int32) (x3 : Int32) (ν : Nm) : Option Nm :=
  (if (gi ν x0 7) < (30 : Int32) then
    Pt_writeDown_30 x0 x1 x2 x3 ν
  else
    Pt_writeDown_30 x0 x1 x2 x3 (si (scp ν (x0 + 3) 1 (x0 + 3) 0 29) x0 7 (29 : Int32)))
set_option maxRecDepth 100000 in
set_option maxHeartbeats 4000000 in
theorem t_Pt_writeDown {g : GG} {d : Nat} (hd0 : 1 ≤ d) : ∀ (x0 : Nat) (x1 : Int32) (x2 : Int32) (x3 : Int32) (ν : Nm) (r : Nm), zk 333 x0 (1, 0) → Pt_writeDown x0 x1 x2 x3 ν = some r → Z g d (0, 0) mX2_writeDown 333 0 0 0 [(0, .ref x0), (1, .int x1), (2, .int x2), (3, .int x3)] [] (zem ν) (zF g (none, zem r)) := by
  intro x0 x1 x2 x3 ν r hq0 h
  unfold Pt_writeDown at h
  refine z_aload_n dX2_writeDown_0 0 rfl ?_
  refine y_getI dX2_writeDown_1 hq0 flRX2_34 ?_
  refine z_bipush (M := mX2_writeDown) (v := 30) dX2_writeDown_4 rfl ?_
  refine z_icmp_lt 30 dX2_writeDown_6 rfl (fun hc1 => ?_) (fun hc1 => ?_)
  · replace h := oT hc1 h
    exact t_Pt_writeDown_30 hd0  x0 x1 x2 x3 ν _ hq0 h
  · replace h := oF hc1 h
    refine z_aload_n dX2_writeDown_9 0 rfl ?_
    refine y_getR (M := mX2_writeDown) (r := (x0 + 3)) dX2_writeDown_10 hq0 flRX2_22 fr_1_6.1 (fr_1_6.2 _) ?_
    refine z_iconst (M := mX2_writeDown) (v := 1) dX2_writeDown_13 rfl ?_
    refine z_aload_n dX2_writeDown_14 0 rfl ?_
    refine y_getR (M := mX2_writeDown) (r := (x0 + 3)) dX2_writeDown_15 hq0 flRX2_22 fr_1_6.1 (fr_1_6.2 _) ?_
    refine z_iconst (M := mX2_writeDown) (v := 0) dX2_writeDown_18 rfl ?_
    refine z_bipush (M := mX2_writeDown) (v := 29) dX2_writeDown_19 rfl ?_
    refine y_copy dX2_writeDown_21 (cpw mlRX2_37) (zko_1_6 hq0) (zko_1_6 hq0) (by decide) (Nat.le_trans (Nat.le_of_ble_eq_true rfl) hd0) (Nat.le_of_ble_eq_true rfl) rfl rfl rfl ?_
    refine z_aload_n dX2_writeDown_24 0 rfl ?_
    refine z_bipush (M := mX2_writeDown) (v := 29) dX2_writeDown_25 rfl ?_
    refine y_putI dX2_writeDown_27 hq0 flRX2_34 ⟨rfl, rfl⟩ ?_
    exact t_Pt_writeDown_30 hd0  x0 x1 x2 x3 (si (scp ν (x0 + 3) 1 (x0 + 3) 0 29) x0 7 (29 : Int32)) _ hq0 h
theorem ct_Pt_writeDown {g : GG} {d : Nat} {x0 : Nat} {x1 : Int32} {x2 : Int32} {x3 : Int32} {ν : Nm} {r : Nm} (hd0 : 1 ≤ d) (hq0 : zk 333 x0 (1, 0)) (h : Pt_writeDown x0 x1 x2 x3 ν = some r) : Ct g d mX2_writeDown [.ref x0, .int x1, .int x2, .int x3] (zem ν) (none, zem r) := y_entry in_X2_writeDown (Nat.le_of_ble_eq_true rfl) rfl (t_Pt_writeDown hd0 x0 x1 x2 x3 ν r hq0 h)
-- FuseMinutes$Pit.putOut(II)V
theorem dX2_putOut_0 : decode cX2_putOut 0 = .ok (.aload_n 0, 1) := by decide +kernel
theorem dX2_putOut_1 : decode cX2_putOut 1 = .ok (.getfield 19, 3) := by decide +kernel
theorem dX2_putOut_4 : decode cX2_putOut 4 = .ok (.iload_n 1, 1) := by decide +kernel
theorem dX2_putOut_5 : decode cX2_putOut 5 = .ok (.dup2, 1) := by decide +kernel
theorem dX2_putOut_6 : decode cX2_putOut 6 = .ok (.iaload, 1) := by decide +kernel
theorem dX2_putOut_7 : decode cX2_putOut 7 = .ok (.iconst 1, 1) := by decide +kernel
theorem dX2_putOut_8 : decode cX2_putOut 8 = .ok (.iload_n 2, 1) := by decide +kernel
theorem dX2_putOut_9 : decode cX2_putOut 9 = .ok (.ishl, 1) := by decide +kernel
theorem dX2_putOut_10 : decode cX2_putOut 10 = .ok (.iconst (-1), 1) := by decide +kernel
theorem dX2_putOut_11 : decode cX2_putOut 11 = .ok (.ixor, 1) := by decide +kernel
theorem dX2_putOut_12 : decode cX2_putOut 12 = .ok (.iand, 1) := by decide +kernel
theorem dX2_putOut_13 : decode cX2_putOut 13 = .ok (.iastore, 1) := by decide +kernel
theorem dX2_putOut_14 : decode cX2_putOut 14 = .ok (.aload_n 0, 1) := by decide +kernel
theorem dX2_putOut_15 : decode cX2_putOut 15 = .ok (.iload_n 1, 1) := by decide +kernel
theorem dX2_putOut_16 : decode cX2_putOut 16 = .ok (.iconst 2, 1) := by decide +kernel
theorem dX2_putOut_17 : decode cX2_putOut 17 = .ok (.iload_n 2, 1) := by decide +kernel
theorem dX2_putOut_18 : decode cX2_putOut 18 = .ok (.invokevirtual 51, 3) := by decide +kernel
theorem dX2_putOut_21 : decode cX2_putOut 21 = .ok (.return_, 1) := by decide +kernel
def Pt_putOut (x0 : Nat) (x1 : Int32) (x2 : Int32) (ν : Nm) : Option Nm :=
  if inb x1 4 then
  if inb x1 4 then
  (Pt_writeDown x0 x1 (2 : Int32) x2 (si ν (x0 + 2) x1.toNatClampNeg ((gi ν (x0 + 2) x1.toNatClampNeg) &&& (((1 : Int32) <<< (x2 &&& 31)) ^^^ (-1 : Int32))))).bind fun v3 =>
  some v3
  else none
  else none
set_option maxRecDepth 100000 in
set_option maxHeartbeats 4000000 in
theorem t_Pt_putOut {g : GG} {d : Nat} (hd0 : 2 ≤ d) : ∀ (x0 : Nat) (x1 : Int32) (x2 : Int32) (ν : Nm) (r : Nm), zk 333 x0 (1, 0) → Pt_putOut x0 x1 x2 ν = some r → Z g d (0, 0) mX2_putOut 333 0 0 0 [(0, .ref x0), (1, .int x1), (2, .int x2)] [] (zem ν) (zF g (none, zem r)) := by
  intro x0 x1 x2 ν r hq0 h
  unfold Pt_putOut at h
  refine z_aload_n dX2_putOut_0 0 rfl ?_
  refine y_getR (M := mX2_putOut) (r := (x0 + 2)) dX2_putOut_1 hq0 flRX2_19 fr_1_5.1 (fr_1_5.2 _) ?_
  refine z_iload_n dX2_putOut_4 1 rfl ?_
  refine z_dup2 dX2_putOut_5 rfl rfl ?_
  obtain ⟨hi1, h⟩ := oif h
  refine y_iald (M := mX2_putOut) (jj := x1.toNatClampNeg) dX2_putOut_6 (zko_1_5 hq0) hi1 rfl ?_
  refine z_iconst (M := mX2_putOut) (v := 1) dX2_putOut_7 rfl ?_
  refine z_iload_n dX2_putOut_8 2 rfl ?_
  refine z_ishl dX2_putOut_9 ?_
  refine z_iconst (M := mX2_putOut) (v := -1) dX2_putOut_10 rfl ?_
  refine z_ixor dX2_putOut_11 ?_
  refine z_iand dX2_putOut_12 ?_
  obtain ⟨hi2, h⟩ := oif h
  refine y_iast (M := mX2_putOut) (jj := x1.toNatClampNeg) dX2_putOut_13 (zko_1_5 hq0) hi2 rfl ?_
  refine z_aload_n dX2_putOut_14 0 rfl ?_
  refine z_iload_n dX2_putOut_15 1 rfl ?_
  refine z_iconst (M := mX2_putOut) (v := 2) dX2_putOut_16 rfl ?_
  refine z_iload_n dX2_putOut_17 2 rfl ?_
  obtain ⟨v3, he3, h⟩ := obind h
  refine y_Vv (M := mX2_putOut) (Y := mX2_writeDown) (d2 := d - 1) (As := [.int x1, .int (2 : Int32), .int x2]) (st := []) dX2_putOut_18 mlRX2_51 cv_X2_writeDown hq0 (ct_Pt_writeDown (dle (Nat.le_of_ble_eq_true rfl) hd0) hq0 he3) (dps (Nat.le_of_ble_eq_true rfl) hd0) rfl rfl (Nat.le_of_ble_eq_true rfl) ?_
  cases h
  exact z_vret dX2_putOut_21 rfl
theorem ct_Pt_putOut {g : GG} {d : Nat} {x0 : Nat} {x1 : Int32} {x2 : Int32} {ν : Nm} {r : Nm} (hd0 : 2 ≤ d) (hq0 : zk 333 x0 (1, 0)) (h : Pt_putOut x0 x1 x2 ν = some r) : Ct g d mX2_putOut [.ref x0, .int x1, .int x2] (zem ν) (none, zem r) := y_entry in_X2_putOut (Nat.le_of_ble_eq_true rfl) rfl (t_Pt_putOut hd0 x0 x1 x2 ν r hq0 h)
-- FuseMinutes$Pit.touch(IIZ)V
theorem dX2_touch_0 : decode cX2_touch 0 = .ok (.aload_n 0, 1) := by decide +kernel
theorem dX2_touch_1 : decode cX2_touch 1 = .ok (.dup, 1) := by decide +kernel
theorem dX2_touch_2 : decode cX2_touch 2 = .ok (.getfield 31, 3) := by decide +kernel
theorem dX2_touch_5 : decode cX2_touch 5 = .ok (.iconst 1, 1) := by decide +kernel
theorem dX2_touch_6 : decode cX2_touch 6 = .ok (.iadd, 1) := by decide +kernel
theorem dX2_touch_7 : decode cX2_touch 7 = .ok (.putfield 31, 3) := by decide +kernel
theorem dX2_touch_10 : decode cX2_touch 10 = .ok (.iload_n 3, 1) := by decide +kernel
theorem dX2_touch_11 : decode cX2_touch 11 = .ok (.ifCond .ne 15, 3) := by decide +kernel
theorem dX2_touch_14 : decode cX2_touch 14 = .ok (.aload_n 0, 1) := by decide +kernel
theorem dX2_touch_15 : decode cX2_touch 15 = .ok (.getfield 19, 3) := by decide +kernel
theorem dX2_touch_18 : decode cX2_touch 18 = .ok (.iload_n 1, 1) := by decide +kernel
theorem dX2_touch_19 : decode cX2_touch 19 = .ok (.dup2, 1) := by decide +kernel
theorem dX2_touch_20 : decode cX2_touch 20 = .ok (.iaload, 1) := by decide +kernel
theorem dX2_touch_21 : decode cX2_touch 21 = .ok (.iconst 1, 1) := by decide +kernel
theorem dX2_touch_22 : decode cX2_touch 22 = .ok (.iload_n 2, 1) := by decide +kernel
theorem dX2_touch_23 : decode cX2_touch 23 = .ok (.ishl, 1) := by decide +kernel
theorem dX2_touch_24 : decode cX2_touch 24 = .ok (.ior, 1) := by decide +kernel
theorem dX2_touch_25 : decode cX2_touch 25 = .ok (.iastore, 1) := by decide +kernel
theorem dX2_touch_26 : decode cX2_touch 26 = .ok (.aload_n 0, 1) := by decide +kernel
theorem dX2_touch_27 : decode cX2_touch 27 = .ok (.iload_n 1, 1) := by decide +kernel
theorem dX2_touch_28 : decode cX2_touch 28 = .ok (.iload_n 3, 1) := by decide +kernel
theorem dX2_touch_29 : decode cX2_touch 29 = .ok (.ifCond .eq 7, 3) := by decide +kernel
theorem dX2_touch_32 : decode cX2_touch 32 = .ok (.iconst 1, 1) := by decide +kernel
theorem dX2_touch_33 : decode cX2_touch 33 = .ok (.goto 4, 3) := by decide +kernel
theorem dX2_touch_36 : decode cX2_touch 36 = .ok (.iconst 0, 1) := by decide +kernel
theorem dX2_touch_37 : decode cX2_touch 37 = .ok (.iload_n 2, 1) := by decide +kernel
theorem dX2_touch_38 : decode cX2_touch 38 = .ok (.invokevirtual 51, 3) := by decide +kernel
theorem dX2_touch_41 : decode cX2_touch 41 = .ok (.return_, 1) := by decide +kernel
def Pt_touch_37 (x2 : Int32) (s0 : Int32) (s1 : Int32) (s2 : Nat) (ν : Nm) : Option Nm :=
  (Pt_writeDown s2 s1 s0 x2 ν).bind fun v1 =>
  some v1
set_option maxRecDepth 100000 in
set_option maxHeartbeats 4000000 in
theorem t_Pt_touch_37 {g : GG} {d : Nat} (hd0 : 2 ≤ d) : ∀ (x2 : Int32) (s0 : Int32) (s1 : Int32) (s2 : Nat) (ν : Nm) (r : Nm), zk 333 s2 (1, 0) → Pt_touch_37 x2 s0 s1 s2 ν = some r → Z g d (0, 0) mX2_touch 333 0 0 37 [(2, .int x2)] [.int s0, .int s1, .ref s2] (zem ν) (zF g (none, zem r)) := by
  intro x2 s0 s1 s2 ν r hs2 h
  unfold Pt_touch_37 at h
  refine z_iload_n dX2_touch_37 0 rfl ?_
  obtain ⟨v1, he1, h⟩ := obind h
  refine y_Vv (M := mX2_touch) (Y := mX2_writeDown) (d2 := d - 1) (As := [.int s1, .int s0, .int x2]) (st := []) dX2_touch_38 mlRX2_51 cv_X2_writeDown hs2 (ct_Pt_writeDown (dle (Nat.le_of_ble_eq_true rfl) hd0) hs2 he1) (dps (Nat.le_of_ble_eq_true rfl) hd0) rfl rfl (Nat.le_of_ble_eq_true rfl) ?_
  cases h
  exact z_vret dX2_touch_41 rfl
def Pt_touch_26 (x0 : Nat) (x1 : Int32) (x2 : Int32) (x3 : Int32) (ν : Nm) : Option Nm :=
  (if x3 = 0 then
    Pt_touch_37 x2 (0 : Int32) x1 x0 ν
  else
    Pt_touch_37 x2 (1 : Int32) x1 x0 ν)
set_option maxRecDepth 100000 in
set_option maxHeartbeats 4000000 in
theorem t_Pt_touch_26 {g : GG} {d : Nat} (hd0 : 2 ≤ d) : ∀ (x0 : Nat) (x1 : Int32) (x2 : Int32) (x3 : Int32) (ν : Nm) (r : Nm), zk 333 x0 (1, 0) → Pt_touch_26 x0 x1 x2 x3 ν = some r → Z g d (0, 0) mX2_touch 333 0 0 26 [(0, .ref x0), (1, .int x1), (2, .int x2), (3, .int x3)] [] (zem ν) (zF g (none, zem r)) := by
  intro x0 x1 x2 x3 ν r hq0 h
  unfold Pt_touch_26 at h
  refine z_aload_n dX2_touch_26 0 rfl ?_
  refine z_iload_n dX2_touch_27 1 rfl ?_
  refine z_iload_n dX2_touch_28 3 rfl ?_
  refine z_if_eq 36 dX2_touch_29 rfl (fun hc1 => ?_) (fun hc1 => ?_)
  · replace h := oT hc1 h
    refine z_iconst (M := mX2_touch) (v := 0) dX2_touch_36 rfl ?_
    refine z_lv (lv2 := [(2, .int x2)]) [2] rfl ?_
    exact t_Pt_touch_37 hd0  x2 (0 : Int32) x1 x0 ν _ hq0 h
  · replace h := oF hc1 h
    refine z_iconst (M := mX2_touch) (v := 1) dX2_touch_32 rfl ?_
    refine z_goto 37 dX2_touch_33 rfl ?_
    refine z_lv (lv2 := [(2, .int x2)]) [2] rfl ?_
    exact t_Pt_touch_37 hd0  x2 (1 : Int32) x1 x0 ν _ hq0 h
def Pt_touch (x0 : Nat) (x1 : Int32) (x2 : Int32) (x3 : Int32) (ν : Nm) : Option Nm :=
  (if ¬ x3 = 0 then
    Pt_touch_26 x0 x1 x2 x3 (si ν x0 3 ((gi ν x0 3) + (1 : Int32)))
  else
    if inb x1 4 then
    if inb x1 4 then
    Pt_touch_26 x0 x1 x2 x3 (si (si ν x0 3 ((gi ν x0 3) + (1 : Int32))) (x0 + 2) x1.toNatClampNeg ((gi (si ν x0 3 ((gi ν x0 3) + (1 : Int32))) (x0 + 2) x1.toNatClampNeg) ||| ((1 : Int32) <<< (x2 &&& 31))))
    else none
    else none)
set_option maxRecDepth 100000 in
set_option maxHeartbeats 4000000 in
theorem t_Pt_touch {g : GG} {d : Nat} (hd0 : 2 ≤ d) : ∀ (x0 : Nat) (x1 : Int32) (x2 : Int32) (x3 : Int32) (ν : Nm) (r : Nm), zk 333 x0 (1, 0) → Pt_touch x0 x1 x2 x3 ν = some r → Z g d (0, 0) mX2_touch 333 0 0 0 [(0, .ref x0), (1, .int x1), (2, .int x2), (3, .int x3)] [] (zem ν) (zF g (none, zem r)) := by
  intro x0 x1 x2 x3 ν r hq0 h
  unfold Pt_touch at h
  refine z_aload_n dX2_touch_0 0 rfl ?_
  refine z_dup dX2_touch_1 rfl ?_
  refine y_getI dX2_touch_2 hq0 flRX2_31 ?_
  refine z_iconst (M := mX2_touch) (v := 1) dX2_touch_5 rfl ?_
  refine z_iadd dX2_touch_6 ?_
  refine y_putI dX2_touch_7 hq0 flRX2_31 ⟨rfl, rfl⟩ ?_
  refine z_iload_n dX2_touch_10 3 rfl ?_
  refine z_if_ne 26 dX2_touch_11 rfl (fun hc1 => ?_) (fun hc1 => ?_)
  · replace h := oT hc1 h
    exact t_Pt_touch_26 hd0  x0 x1 x2 x3 (si ν x0 3 ((gi ν x0 3) + (1 : Int32))) _ hq0 h
  · replace h := oFn hc1 h
    refine z_aload_n dX2_touch_14 0 rfl ?_
    refine y_getR (M := mX2_touch) (r := (x0 + 2)) dX2_touch_15 hq0 flRX2_19 fr_1_5.1 (fr_1_5.2 _) ?_
    refine z_iload_n dX2_touch_18 1 rfl ?_
    refine z_dup2 dX2_touch_19 rfl rfl ?_
    obtain ⟨hi2, h⟩ := oif h
    refine y_iald (M := mX2_touch) (jj := x1.toNatClampNeg) dX2_touch_20 (zko_1_5 hq0) hi2 rfl ?_
    refine z_iconst (M := mX2_touch) (v := 1) dX2_touch_21 rfl ?_
    refine z_iload_n dX2_touch_22 2 rfl ?_
    refine z_ishl dX2_touch_23 ?_
    refine z_ior dX2_touch_24 ?_
    obtain ⟨hi3, h⟩ := oif h
    refine y_iast (M := mX2_touch) (jj := x1.toNatClampNeg) dX2_touch_25 (zko_1_5 hq0) hi3 rfl ?_
    exact t_Pt_touch_26 hd0  x0 x1 x2 x3 (si (si ν x0 3 ((gi ν x0 3) + (1 : Int32))) (x0 + 2) x1.toNatClampNeg ((gi (si ν x0 3 ((gi ν x0 3) + (1 : Int32))) (x0 + 2) x1.toNatClampNeg) ||| ((1 : Int32) <<< (x2 &&& 31)))) _ hq0 h
theorem ct_Pt_touch {g : GG} {d : Nat} {x0 : Nat} {x1 : Int32} {x2 : Int32} {x3 : Int32} {ν : Nm} {r : Nm} (hd0 : 2 ≤ d) (hq0 : zk 333 x0 (1, 0)) (h : Pt_touch x0 x1 x2 x3 ν = some r) : Ct g d mX2_touch [.ref x0, .int x1, .int x2, .int x3] (zem ν) (none, zem r) := y_entry in_X2_touch (Nat.le_of_ble_eq_true rfl) rfl (t_Pt_touch hd0 x0 x1 x2 x3 ν r hq0 h)
-- FuseMinutes$Pit.draw()I
theorem dX2_draw_0 : decode cX2_draw 0 = .ok (.aload_n 0, 1) := by decide +kernel
theorem dX2_draw_1 : decode cX2_draw 1 = .ok (.getfield 9, 3) := by decide +kernel
theorem dX2_draw_4 : decode cX2_draw 4 = .ok (.istore_n 1, 1) := by decide +kernel
theorem dX2_draw_5 : decode cX2_draw 5 = .ok (.aload_n 0, 1) := by decide +kernel
theorem dX2_draw_6 : decode cX2_draw 6 = .ok (.aload_n 0, 1) := by decide +kernel
theorem dX2_draw_7 : decode cX2_draw 7 = .ok (.getfield 9, 3) := by decide +kernel
theorem dX2_draw_10 : decode cX2_draw 10 = .ok (.sipush 569, 3) := by decide +kernel
theorem dX2_draw_13 : decode cX2_draw 13 = .ok (.imul, 1) := by decide +kernel
theorem dX2_draw_14 : decode cX2_draw 14 = .ok (.sipush 439, 3) := by decide +kernel
theorem dX2_draw_17 : decode cX2_draw 17 = .ok (.iadd, 1) := by decide +kernel
theorem dX2_draw_18 : decode cX2_draw 18 = .ok (.sipush 30781, 3) := by decide +kernel
theorem dX2_draw_21 : decode cX2_draw 21 = .ok (.irem, 1) := by decide +kernel
theorem dX2_draw_22 : decode cX2_draw 22 = .ok (.putfield 9, 3) := by decide +kernel
theorem dX2_draw_25 : decode cX2_draw 25 = .ok (.iload_n 1, 1) := by decide +kernel
theorem dX2_draw_26 : decode cX2_draw 26 = .ok (.ireturn, 1) := by decide +kernel
def Pt_draw (x0 : Nat) (ν : Nm) : Option (Int32 × Nm) :=
  some ((gi ν x0 2), (si ν x0 2 ((((gi ν x0 2) * (569 : Int32)) + (439 : Int32)) - (((gi ν x0 2) * (569 : Int32)) + (439 : Int32)) / (30781 : Int32) * (30781 : Int32))))
set_option maxRecDepth 100000 in
set_option maxHeartbeats 4000000 in
theorem t_Pt_draw {g : GG} {d : Nat} (hd0 : 1 ≤ d) : ∀ (x0 : Nat) (ν : Nm) (r : (Int32 × Nm)), zk 333 x0 (1, 0) → Pt_draw x0 ν = some r → Z g d (0, 0) mX2_draw 333 0 0 0 [(0, .ref x0)] [] (zem ν) (zF g (some (.int r.1), zem r.2)) := by
  intro x0 ν r hq0 h
  unfold Pt_draw at h
  refine z_aload_n dX2_draw_0 0 rfl ?_
  refine y_getI dX2_draw_1 hq0 flRX2_9 ?_
  refine z_istore_n (M := mX2_draw) (lv2 := [(1, .int (gi ν x0 2)), (0, .ref x0)]) dX2_draw_4 (Nat.le_of_ble_eq_true rfl) rfl ?_
  refine z_aload_n dX2_draw_5 1 rfl ?_
  refine z_aload_n dX2_draw_6 1 rfl ?_
  refine y_getI dX2_draw_7 hq0 flRX2_9 ?_
  refine z_sipush (M := mX2_draw) (v := 569) dX2_draw_10 rfl ?_
  refine z_imul dX2_draw_13 ?_
  refine z_sipush (M := mX2_draw) (v := 439) dX2_draw_14 rfl ?_
  refine z_iadd dX2_draw_17 ?_
  refine z_sipush (M := mX2_draw) (v := 30781) dX2_draw_18 rfl ?_
  refine z_irem dX2_draw_21 (by decide) ?_
  refine y_putI dX2_draw_22 hq0 flRX2_9 ⟨rfl, rfl⟩ ?_
  refine z_iload_n dX2_draw_25 0 rfl ?_
  cases h
  exact z_iret dX2_draw_26 rfl
theorem ct_Pt_draw {g : GG} {d : Nat} {x0 : Nat} {ν : Nm} {r : (Int32 × Nm)} (hd0 : 1 ≤ d) (hq0 : zk 333 x0 (1, 0)) (h : Pt_draw x0 ν = some r) : Ct g d mX2_draw [.ref x0] (zem ν) (some (.int r.1), zem r.2) := y_entry in_X2_draw (Nat.le_of_ble_eq_true rfl) rfl (t_Pt_draw hd0 x0 ν r hq0 h)
-- FuseMinutes$Pit.endsBurning()I
theorem dX2_endsBurning_0 : decode cX2_endsBurning 0 = .ok (.iconst 0, 1) := by decide +kernel
theorem dX2_endsBurning_1 : decode cX2_endsBurning 1 = .ok (.istore_n 1, 1) := by decide +kernel
theorem dX2_endsBurning_2 : decode cX2_endsBurning 2 = .ok (.iconst 0, 1) := by decide +kernel
theorem dX2_endsBurning_3 : decode cX2_endsBurning 3 = .ok (.istore_n 2, 1) := by decide +kernel
theorem dX2_endsBurning_4 : decode cX2_endsBurning 4 = .ok (.iload_n 2, 1) := by decide +kernel
theorem dX2_endsBurning_5 : decode cX2_endsBurning 5 = .ok (.iconst 4, 1) := by decide +kernel
theorem dX2_endsBurning_6 : decode cX2_endsBurning 6 = .ok (.if_icmp .ge 29, 3) := by decide +kernel
theorem dX2_endsBurning_9 : decode cX2_endsBurning 9 = .ok (.iload_n 1, 1) := by decide +kernel
theorem dX2_endsBurning_10 : decode cX2_endsBurning 10 = .ok (.aload_n 0, 1) := by decide +kernel
theorem dX2_endsBurning_11 : decode cX2_endsBurning 11 = .ok (.getfield 19, 3) := by decide +kernel
theorem dX2_endsBurning_14 : decode cX2_endsBurning 14 = .ok (.iload_n 2, 1) := by decide +kernel
theorem dX2_endsBurning_15 : decode cX2_endsBurning 15 = .ok (.iaload, 1) := by decide +kernel
theorem dX2_endsBurning_16 : decode cX2_endsBurning 16 = .ok (.iconst 1, 1) := by decide +kernel
theorem dX2_endsBurning_17 : decode cX2_endsBurning 17 = .ok (.iand, 1) := by decide +kernel
theorem dX2_endsBurning_18 : decode cX2_endsBurning 18 = .ok (.aload_n 0, 1) := by decide +kernel
theorem dX2_endsBurning_19 : decode cX2_endsBurning 19 = .ok (.getfield 19, 3) := by decide +kernel
theorem dX2_endsBurning_22 : decode cX2_endsBurning 22 = .ok (.iload_n 2, 1) := by decide +kernel
theorem dX2_endsBurning_23 : decode cX2_endsBurning 23 = .ok (.iaload, 1) := by decide +kernel
theorem dX2_endsBurning_24 : decode cX2_endsBurning 24 = .ok (.iconst 1, 1) := by decide +kernel
theorem dX2_endsBurning_25 : decode cX2_endsBurning 25 = .ok (.ishr, 1) := by decide +kernel
theorem dX2_endsBurning_26 : decode cX2_endsBurning 26 = .ok (.iadd, 1) := by decide +kernel
theorem dX2_endsBurning_27 : decode cX2_endsBurning 27 = .ok (.iadd, 1) := by decide +kernel
theorem dX2_endsBurning_28 : decode cX2_endsBurning 28 = .ok (.istore_n 1, 1) := by decide +kernel
theorem dX2_endsBurning_29 : decode cX2_endsBurning 29 = .ok (.iinc 2 1, 3) := by decide +kernel
theorem dX2_endsBurning_32 : decode cX2_endsBurning 32 = .ok (.goto (-28), 3) := by decide +kernel
theorem dX2_endsBurning_35 : decode cX2_endsBurning 35 = .ok (.iload_n 1, 1) := by decide +kernel
theorem dX2_endsBurning_36 : decode cX2_endsBurning 36 = .ok (.ireturn, 1) := by decide +kernel
def Pt_endsBurning_4 (ν : Nm) : Nat → Nat → Int32 → Int32 → Option Int32
  | 0, _, _, _ => none
  | f + 1, x0, x1, x2 =>
    (if (4 : Int32) ≤ x2 then
      some x1
    else
      if inb x2 4 then
      if inb x2 4 then
      (Pt_endsBurning_4 ν f) x0 (x1 + (((gi ν (x0 + 2) x2.toNatClampNeg) &&& (1 : Int32)) + ((gi ν (x0 + 2) x2.toNatClampNeg) >>> ((1 : Int32) &&& 31)))) (x2 + (1 : Int32))
      else none
      else none)
set_option maxRecDepth 100000 in
set_option maxHeartbeats 4000000 in
theorem t_Pt_endsBurning_4 {g : GG} {d : Nat} {ν : Nm} (hd0 : 1 ≤ d) : ∀ (f : Nat), ∀ (x0 : Nat) (x1 : Int32) (x2 : Int32) (r : Int32), zk 333 x0 (1, 0) → Pt_endsBurning_4 ν f x0 x1 x2 = some r → Z g d (0, 0) mX2_endsBurning 333 0 0 4 [(0, .ref x0), (1, .int x1), (2, .int x2)] [] (zem ν) (zF g (some (.int r), zem ν)) := by
  intro f
  induction f with
  | zero =>
    intro x0 x1 x2 r hq0 h
    cases h
  | succ f ih =>
    intro x0 x1 x2 r hq0 h
    rw [Pt_endsBurning_4] at h
    refine z_iload_n dX2_endsBurning_4 2 rfl ?_
    refine z_iconst (M := mX2_endsBurning) (v := 4) dX2_endsBurning_5 rfl ?_
    refine z_icmp_ge 35 dX2_endsBurning_6 rfl (fun hc1 => ?_) (fun hc1 => ?_)
    · replace h := oT hc1 h
      refine z_iload_n dX2_endsBurning_35 1 rfl ?_
      cases h
      exact z_iret dX2_endsBurning_36 rfl
    · replace h := oF hc1 h
      refine z_iload_n dX2_endsBurning_9 1 rfl ?_
      refine z_aload_n dX2_endsBurning_10 0 rfl ?_
      refine y_getR (M := mX2_endsBurning) (r := (x0 + 2)) dX2_endsBurning_11 hq0 flRX2_19 fr_1_5.1 (fr_1_5.2 _) ?_
      refine z_iload_n dX2_endsBurning_14 2 rfl ?_
      obtain ⟨hi2, h⟩ := oif h
      refine y_iald (M := mX2_endsBurning) (jj := x2.toNatClampNeg) dX2_endsBurning_15 (zko_1_5 hq0) hi2 rfl ?_
      refine z_iconst (M := mX2_endsBurning) (v := 1) dX2_endsBurning_16 rfl ?_
      refine z_iand dX2_endsBurning_17 ?_
      refine z_aload_n dX2_endsBurning_18 0 rfl ?_
      refine y_getR (M := mX2_endsBurning) (r := (x0 + 2)) dX2_endsBurning_19 hq0 flRX2_19 fr_1_5.1 (fr_1_5.2 _) ?_
      refine z_iload_n dX2_endsBurning_22 2 rfl ?_
      obtain ⟨hi3, h⟩ := oif h
      refine y_iald (M := mX2_endsBurning) (jj := x2.toNatClampNeg) dX2_endsBurning_23 (zko_1_5 hq0) hi3 rfl ?_
      refine z_iconst (M := mX2_endsBurning) (v := 1) dX2_endsBurning_24 rfl ?_
      refine z_ishr dX2_endsBurning_25 ?_
      refine z_iadd dX2_endsBurning_26 ?_
      refine z_iadd dX2_endsBurning_27 ?_
      refine z_istore_n (M := mX2_endsBurning) (lv2 := [(1, .int (x1 + (((gi ν (x0 + 2) x2.toNatClampNeg) &&& (1 : Int32)) + ((gi ν (x0 + 2) x2.toNatClampNeg) >>> ((1 : Int32) &&& 31))))), (0, .ref x0), (2, .int x2)]) dX2_endsBurning_28 (Nat.le_of_ble_eq_true rfl) rfl ?_
      refine z_iinc (M := mX2_endsBurning) (v := (x2 + (1 : Int32))) (lv2 := [(2, .int (x2 + (1 : Int32))), (1, .int (x1 + (((gi ν (x0 + 2) x2.toNatClampNeg) &&& (1 : Int32)) + ((gi ν (x0 + 2) x2.toNatClampNeg) >>> ((1 : Int32) &&& 31))))), (0, .ref x0)]) dX2_endsBurning_29 2 rfl rfl (Nat.le_of_ble_eq_true rfl) rfl ?_
      refine z_goto 4 dX2_endsBurning_32 rfl ?_
      refine z_lv (lv2 := [(0, .ref x0), (1, .int (x1 + (((gi ν (x0 + 2) x2.toNatClampNeg) &&& (1 : Int32)) + ((gi ν (x0 + 2) x2.toNatClampNeg) >>> ((1 : Int32) &&& 31))))), (2, .int (x2 + (1 : Int32)))]) [2, 1, 0] rfl ?_
      exact ih x0 (x1 + (((gi ν (x0 + 2) x2.toNatClampNeg) &&& (1 : Int32)) + ((gi ν (x0 + 2) x2.toNatClampNeg) >>> ((1 : Int32) &&& 31)))) (x2 + (1 : Int32)) _ hq0 h
def Pt_endsBurning (ν : Nm) (x0 : Nat) : Option Int32 :=
  Pt_endsBurning_4 ν FU x0 (0 : Int32) (0 : Int32)
set_option maxRecDepth 100000 in
set_option maxHeartbeats 4000000 in
theorem t_Pt_endsBurning {g : GG} {d : Nat} {ν : Nm} (hd0 : 1 ≤ d) : ∀ (x0 : Nat) (r : Int32), zk 333 x0 (1, 0) → Pt_endsBurning ν x0 = some r → Z g d (0, 0) mX2_endsBurning 333 0 0 0 [(0, .ref x0)] [] (zem ν) (zF g (some (.int r), zem ν)) := by
  intro x0 r hq0 h
  unfold Pt_endsBurning at h
  refine z_iconst (M := mX2_endsBurning) (v := 0) dX2_endsBurning_0 rfl ?_
  refine z_istore_n (M := mX2_endsBurning) (lv2 := [(1, .int (0 : Int32)), (0, .ref x0)]) dX2_endsBurning_1 (Nat.le_of_ble_eq_true rfl) rfl ?_
  refine z_iconst (M := mX2_endsBurning) (v := 0) dX2_endsBurning_2 rfl ?_
  refine z_istore_n (M := mX2_endsBurning) (lv2 := [(2, .int (0 : Int32)), (1, .int (0 : Int32)), (0, .ref x0)]) dX2_endsBurning_3 (Nat.le_of_ble_eq_true rfl) rfl ?_
  refine z_lv (lv2 := [(0, .ref x0), (1, .int (0 : Int32)), (2, .int (0 : Int32))]) [2, 1, 0] rfl ?_
  exact t_Pt_endsBurning_4 hd0 FU x0 (0 : Int32) (0 : Int32) _ hq0 h
theorem ct_Pt_endsBurning {g : GG} {d : Nat} {x0 : Nat} {ν : Nm} {r : Int32} (hd0 : 1 ≤ d) (hq0 : zk 333 x0 (1, 0)) (h : Pt_endsBurning ν x0 = some r) : Ct g d mX2_endsBurning [.ref x0] (zem ν) (some (.int r), zem ν) := y_entry in_X2_endsBurning (Nat.le_of_ble_eq_true rfl) rfl (t_Pt_endsBurning hd0 x0 r hq0 h)
-- java/lang/Integer.bitCount(I)I
theorem dJ6_bitCount_0f7a4_0 : decode cJ6_bitCount_0f7a4 0 = .ok (.iload_n 0, 1) := by decide +kernel
theorem dJ6_bitCount_0f7a4_1 : decode cJ6_bitCount_0f7a4 1 = .ok (.iload_n 0, 1) := by decide +kernel
theorem dJ6_bitCount_0f7a4_2 : decode cJ6_bitCount_0f7a4 2 = .ok (.iconst 1, 1) := by decide +kernel
theorem dJ6_bitCount_0f7a4_3 : decode cJ6_bitCount_0f7a4 3 = .ok (.iushr, 1) := by decide +kernel
theorem dJ6_bitCount_0f7a4_4 : decode cJ6_bitCount_0f7a4 4 = .ok (.ldc_w 265, 3) := by decide +kernel
theorem dJ6_bitCount_0f7a4_7 : decode cJ6_bitCount_0f7a4 7 = .ok (.iand, 1) := by decide +kernel
theorem dJ6_bitCount_0f7a4_8 : decode cJ6_bitCount_0f7a4 8 = .ok (.isub, 1) := by decide +kernel
theorem dJ6_bitCount_0f7a4_9 : decode cJ6_bitCount_0f7a4 9 = .ok (.istore_n 0, 1) := by decide +kernel
theorem dJ6_bitCount_0f7a4_10 : decode cJ6_bitCount_0f7a4 10 = .ok (.iload_n 0, 1) := by decide +kernel
theorem dJ6_bitCount_0f7a4_11 : decode cJ6_bitCount_0f7a4 11 = .ok (.ldc_w 266, 3) := by decide +kernel
theorem dJ6_bitCount_0f7a4_14 : decode cJ6_bitCount_0f7a4 14 = .ok (.iand, 1) := by decide +kernel
theorem dJ6_bitCount_0f7a4_15 : decode cJ6_bitCount_0f7a4 15 = .ok (.iload_n 0, 1) := by decide +kernel
theorem dJ6_bitCount_0f7a4_16 : decode cJ6_bitCount_0f7a4 16 = .ok (.iconst 2, 1) := by decide +kernel
theorem dJ6_bitCount_0f7a4_17 : decode cJ6_bitCount_0f7a4 17 = .ok (.iushr, 1) := by decide +kernel
theorem dJ6_bitCount_0f7a4_18 : decode cJ6_bitCount_0f7a4 18 = .ok (.ldc_w 266, 3) := by decide +kernel
theorem dJ6_bitCount_0f7a4_21 : decode cJ6_bitCount_0f7a4 21 = .ok (.iand, 1) := by decide +kernel
theorem dJ6_bitCount_0f7a4_22 : decode cJ6_bitCount_0f7a4 22 = .ok (.iadd, 1) := by decide +kernel
theorem dJ6_bitCount_0f7a4_23 : decode cJ6_bitCount_0f7a4 23 = .ok (.istore_n 0, 1) := by decide +kernel
theorem dJ6_bitCount_0f7a4_24 : decode cJ6_bitCount_0f7a4 24 = .ok (.iload_n 0, 1) := by decide +kernel
theorem dJ6_bitCount_0f7a4_25 : decode cJ6_bitCount_0f7a4 25 = .ok (.iload_n 0, 1) := by decide +kernel
theorem dJ6_bitCount_0f7a4_26 : decode cJ6_bitCount_0f7a4 26 = .ok (.iconst 4, 1) := by decide +kernel
theorem dJ6_bitCount_0f7a4_27 : decode cJ6_bitCount_0f7a4 27 = .ok (.iushr, 1) := by decide +kernel
theorem dJ6_bitCount_0f7a4_28 : decode cJ6_bitCount_0f7a4 28 = .ok (.iadd, 1) := by decide +kernel
theorem dJ6_bitCount_0f7a4_29 : decode cJ6_bitCount_0f7a4 29 = .ok (.ldc_w 267, 3) := by decide +kernel
theorem dJ6_bitCount_0f7a4_32 : decode cJ6_bitCount_0f7a4 32 = .ok (.iand, 1) := by decide +kernel
theorem dJ6_bitCount_0f7a4_33 : decode cJ6_bitCount_0f7a4 33 = .ok (.istore_n 0, 1) := by decide +kernel
theorem dJ6_bitCount_0f7a4_34 : decode cJ6_bitCount_0f7a4 34 = .ok (.iload_n 0, 1) := by decide +kernel
theorem dJ6_bitCount_0f7a4_35 : decode cJ6_bitCount_0f7a4 35 = .ok (.iload_n 0, 1) := by decide +kernel
theorem dJ6_bitCount_0f7a4_36 : decode cJ6_bitCount_0f7a4 36 = .ok (.bipush 8, 2) := by decide +kernel
theorem dJ6_bitCount_0f7a4_38 : decode cJ6_bitCount_0f7a4 38 = .ok (.iushr, 1) := by decide +kernel
theorem dJ6_bitCount_0f7a4_39 : decode cJ6_bitCount_0f7a4 39 = .ok (.iadd, 1) := by decide +kernel
theorem dJ6_bitCount_0f7a4_40 : decode cJ6_bitCount_0f7a4 40 = .ok (.istore_n 0, 1) := by decide +kernel
theorem dJ6_bitCount_0f7a4_41 : decode cJ6_bitCount_0f7a4 41 = .ok (.iload_n 0, 1) := by decide +kernel
theorem dJ6_bitCount_0f7a4_42 : decode cJ6_bitCount_0f7a4 42 = .ok (.iload_n 0, 1) := by decide +kernel
theorem dJ6_bitCount_0f7a4_43 : decode cJ6_bitCount_0f7a4 43 = .ok (.bipush 16, 2) := by decide +kernel
theorem dJ6_bitCount_0f7a4_45 : decode cJ6_bitCount_0f7a4 45 = .ok (.iushr, 1) := by decide +kernel
theorem dJ6_bitCount_0f7a4_46 : decode cJ6_bitCount_0f7a4 46 = .ok (.iadd, 1) := by decide +kernel
theorem dJ6_bitCount_0f7a4_47 : decode cJ6_bitCount_0f7a4 47 = .ok (.istore_n 0, 1) := by decide +kernel
theorem dJ6_bitCount_0f7a4_48 : decode cJ6_bitCount_0f7a4 48 = .ok (.iload_n 0, 1) := by decide +kernel
theorem dJ6_bitCount_0f7a4_49 : decode cJ6_bitCount_0f7a4 49 = .ok (.bipush 63, 2) := by decide +kernel
theorem dJ6_bitCount_0f7a4_51 : decode cJ6_bitCount_0f7a4 51 = .ok (.iand, 1) := by decide +kernel
theorem dJ6_bitCount_0f7a4_52 : decode cJ6_bitCount_0f7a4 52 = .ok (.ireturn, 1) := by decide +kernel
def In_bitCount_41 (x0 : Int32) : Option Int32 :=
  some ((x0 + (x0.toUInt32 >>> ((16 : Int32).toUInt32 &&& Int32.toUInt32 31)).toInt32) &&& (63 : Int32))
set_option maxRecDepth 100000 in
set_option maxHeartbeats 4000000 in
theorem t_In_bitCount_41 {g : GG} {d : Nat} {μ : Mm} (hd0 : 1 ≤ d) : ∀ (x0 : Int32) (r : Int32), In_bitCount_41 x0 = some r → Z g d (0, 0) mJ6_bitCount_0f7a4 333 0 0 41 [(0, .int x0)] [] μ (zF g (some (.int r), μ)) := by
  intro x0 r h
  unfold In_bitCount_41 at h
  refine z_iload_n dJ6_bitCount_0f7a4_41 0 rfl ?_
  refine z_iload_n dJ6_bitCount_0f7a4_42 0 rfl ?_
  refine z_bipush (M := mJ6_bitCount_0f7a4) (v := 16) dJ6_bitCount_0f7a4_43 rfl ?_
  refine z_iushr dJ6_bitCount_0f7a4_45 ?_
  refine z_iadd dJ6_bitCount_0f7a4_46 ?_
  refine z_istore_n (M := mJ6_bitCount_0f7a4) (lv2 := [(0, .int (x0 + (x0.toUInt32 >>> ((16 : Int32).toUInt32 &&& Int32.toUInt32 31)).toInt32))]) dJ6_bitCount_0f7a4_47 (Nat.le_of_ble_eq_true rfl) rfl ?_
  refine z_iload_n dJ6_bitCount_0f7a4_48 0 rfl ?_
  refine z_bipush (M := mJ6_bitCount_0f7a4) (v := 63) dJ6_bitCount_0f7a4_49 rfl ?_
  refine z_iand dJ6_bitCount_0f7a4_51 ?_
  cases h
  exact z_iret dJ6_bitCount_0f7a4_52 rfl
def In_bitCount_24 (x0 : Int32) : Option Int32 :=
  In_bitCount_41 (((x0 + (x0.toUInt32 >>> ((4 : Int32).toUInt32 &&& Int32.toUInt32 31)).toInt32) &&& (252645135 : Int32)) + (((x0 + (x0.toUInt32 >>> ((4 : Int32).toUInt32 &&& Int32.toUInt32 31)).toInt32) &&& (252645135 : Int32)).toUInt32 >>> ((8 : Int32).toUInt32 &&& Int32.toUInt32 31)).toInt32)
set_option maxRecDepth 100000 in
set_option maxHeartbeats 4000000 in
theorem t_In_bitCount_24 {g : GG} {d : Nat} {μ : Mm} (hd0 : 1 ≤ d) : ∀ (x0 : Int32) (r : Int32), In_bitCount_24 x0 = some r → Z g d (0, 0) mJ6_bitCount_0f7a4 333 0 0 24 [(0, .int x0)] [] μ (zF g (some (.int r), μ)) := by
  intro x0 r h
  unfold In_bitCount_24 at h
  refine z_iload_n dJ6_bitCount_0f7a4_24 0 rfl ?_
  refine z_iload_n dJ6_bitCount_0f7a4_25 0 rfl ?_
  refine z_iconst (M := mJ6_bitCount_0f7a4) (v := 4) dJ6_bitCount_0f7a4_26 rfl ?_
  refine z_iushr dJ6_bitCount_0f7a4_27 ?_
  refine z_iadd dJ6_bitCount_0f7a4_28 ?_
  refine z_ldcw dJ6_bitCount_0f7a4_29 csRJ6_267 ?_
  refine z_iand dJ6_bitCount_0f7a4_32 ?_
  refine z_istore_n (M := mJ6_bitCount_0f7a4) (lv2 := [(0, .int ((x0 + (x0.toUInt32 >>> ((4 : Int32).toUInt32 &&& Int32.toUInt32 31)).toInt32) &&& (252645135 : Int32)))]) dJ6_bitCount_0f7a4_33 (Nat.le_of_ble_eq_true rfl) rfl ?_
  refine z_iload_n dJ6_bitCount_0f7a4_34 0 rfl ?_
  refine z_iload_n dJ6_bitCount_0f7a4_35 0 rfl ?_
  refine z_bipush (M := mJ6_bitCount_0f7a4) (v := 8) dJ6_bitCount_0f7a4_36 rfl ?_
  refine z_iushr dJ6_bitCount_0f7a4_38 ?_
  refine z_iadd dJ6_bitCount_0f7a4_39 ?_
  refine z_istore_n (M := mJ6_bitCount_0f7a4) (lv2 := [(0, .int (((x0 + (x0.toUInt32 >>> ((4 : Int32).toUInt32 &&& Int32.toUInt32 31)).toInt32) &&& (252645135 : Int32)) + (((x0 + (x0.toUInt32 >>> ((4 : Int32).toUInt32 &&& Int32.toUInt32 31)).toInt32) &&& (252645135 : Int32)).toUInt32 >>> ((8 : Int32).toUInt32 &&& Int32.toUInt32 31)).toInt32))]) dJ6_bitCount_0f7a4_40 (Nat.le_of_ble_eq_true rfl) rfl ?_
  exact t_In_bitCount_41 hd0  (((x0 + (x0.toUInt32 >>> ((4 : Int32).toUInt32 &&& Int32.toUInt32 31)).toInt32) &&& (252645135 : Int32)) + (((x0 + (x0.toUInt32 >>> ((4 : Int32).toUInt32 &&& Int32.toUInt32 31)).toInt32) &&& (252645135 : Int32)).toUInt32 >>> ((8 : Int32).toUInt32 &&& Int32.toUInt32 31)).toInt32) _ h
def In_bitCount (x0 : Int32) : Option Int32 :=
  In_bitCount_24 (((x0 - ((x0.toUInt32 >>> ((1 : Int32).toUInt32 &&& Int32.toUInt32 31)).toInt32 &&& (1431655765 : Int32))) &&& (858993459 : Int32)) + (((x0 - ((x0.toUInt32 >>> ((1 : Int32).toUInt32 &&& Int32.toUInt32 31)).toInt32 &&& (1431655765 : Int32))).toUInt32 >>> ((2 : Int32).toUInt32 &&& Int32.toUInt32 31)).toInt32 &&& (858993459 : Int32)))
set_option maxRecDepth 100000 in
set_option maxHeartbeats 4000000 in
theorem t_In_bitCount {g : GG} {d : Nat} {μ : Mm} (hd0 : 1 ≤ d) : ∀ (x0 : Int32) (r : Int32), In_bitCount x0 = some r → Z g d (0, 0) mJ6_bitCount_0f7a4 333 0 0 0 [(0, .int x0)] [] μ (zF g (some (.int r), μ)) := by
  intro x0 r h
  unfold In_bitCount at h
  refine z_iload_n dJ6_bitCount_0f7a4_0 0 rfl ?_
  refine z_iload_n dJ6_bitCount_0f7a4_1 0 rfl ?_
  refine z_iconst (M := mJ6_bitCount_0f7a4) (v := 1) dJ6_bitCount_0f7a4_2 rfl ?_
  refine z_iushr dJ6_bitCount_0f7a4_3 ?_
  refine z_ldcw dJ6_bitCount_0f7a4_4 csRJ6_265 ?_
  refine z_iand dJ6_bitCount_0f7a4_7 ?_
  refine z_isub dJ6_bitCount_0f7a4_8 ?_
  refine z_istore_n (M := mJ6_bitCount_0f7a4) (lv2 := [(0, .int (x0 - ((x0.toUInt32 >>> ((1 : Int32).toUInt32 &&& Int32.toUInt32 31)).toInt32 &&& (1431655765 : Int32))))]) dJ6_bitCount_0f7a4_9 (Nat.le_of_ble_eq_true rfl) rfl ?_
  refine z_iload_n dJ6_bitCount_0f7a4_10 0 rfl ?_
  refine z_ldcw dJ6_bitCount_0f7a4_11 csRJ6_266 ?_
  refine z_iand dJ6_bitCount_0f7a4_14 ?_
  refine z_iload_n dJ6_bitCount_0f7a4_15 0 rfl ?_
  refine z_iconst (M := mJ6_bitCount_0f7a4) (v := 2) dJ6_bitCount_0f7a4_16 rfl ?_
  refine z_iushr dJ6_bitCount_0f7a4_17 ?_
  refine z_ldcw dJ6_bitCount_0f7a4_18 csRJ6_266 ?_
  refine z_iand dJ6_bitCount_0f7a4_21 ?_
  refine z_iadd dJ6_bitCount_0f7a4_22 ?_
  refine z_istore_n (M := mJ6_bitCount_0f7a4) (lv2 := [(0, .int (((x0 - ((x0.toUInt32 >>> ((1 : Int32).toUInt32 &&& Int32.toUInt32 31)).toInt32 &&& (1431655765 : Int32))) &&& (858993459 : Int32)) + (((x0 - ((x0.toUInt32 >>> ((1 : Int32).toUInt32 &&& Int32.toUInt32 31)).toInt32 &&& (1431655765 : Int32))).toUInt32 >>> ((2 : Int32).toUInt32 &&& Int32.toUInt32 31)).toInt32 &&& (858993459 : Int32))))]) dJ6_bitCount_0f7a4_23 (Nat.le_of_ble_eq_true rfl) rfl ?_
  exact t_In_bitCount_24 hd0  (((x0 - ((x0.toUInt32 >>> ((1 : Int32).toUInt32 &&& Int32.toUInt32 31)).toInt32 &&& (1431655765 : Int32))) &&& (858993459 : Int32)) + (((x0 - ((x0.toUInt32 >>> ((1 : Int32).toUInt32 &&& Int32.toUInt32 31)).toInt32 &&& (1431655765 : Int32))).toUInt32 >>> ((2 : Int32).toUInt32 &&& Int32.toUInt32 31)).toInt32 &&& (858993459 : Int32))) _ h
theorem ct_In_bitCount {g : GG} {d : Nat} {x0 : Int32} {μ : Mm} {r : Int32} (hd0 : 1 ≤ d)  (h : In_bitCount x0 = some r) : Ct g d mJ6_bitCount_0f7a4 [.int x0] μ (some (.int r), μ) := y_entry in_J6_bitCount_0f7a4 (Nat.le_of_ble_eq_true rfl) rfl (t_In_bitCount hd0 x0 r h)
-- FuseMinutes$Pit.sparksToOut(I)I
theorem dX2_sparksToOut_0 : decode cX2_sparksToOut 0 = .ok (.aload_n 0, 1) := by decide +kernel
theorem dX2_sparksToOut_1 : decode cX2_sparksToOut 1 = .ok (.getfield 19, 3) := by decide +kernel
theorem dX2_sparksToOut_4 : decode cX2_sparksToOut 4 = .ok (.iload_n 1, 1) := by decide +kernel
theorem dX2_sparksToOut_5 : decode cX2_sparksToOut 5 = .ok (.iaload, 1) := by decide +kernel
theorem dX2_sparksToOut_6 : decode cX2_sparksToOut 6 = .ok (.invokestatic 55, 3) := by decide +kernel
theorem dX2_sparksToOut_9 : decode cX2_sparksToOut 9 = .ok (.istore_n 2, 1) := by decide +kernel
theorem dX2_sparksToOut_10 : decode cX2_sparksToOut 10 = .ok (.iload_n 2, 1) := by decide +kernel
theorem dX2_sparksToOut_11 : decode cX2_sparksToOut 11 = .ok (.ifCond .ne 7, 3) := by decide +kernel
theorem dX2_sparksToOut_14 : decode cX2_sparksToOut 14 = .ok (.iconst (-1), 1) := by decide +kernel
theorem dX2_sparksToOut_15 : decode cX2_sparksToOut 15 = .ok (.goto 15, 3) := by decide +kernel
theorem dX2_sparksToOut_18 : decode cX2_sparksToOut 18 = .ok (.aload_n 0, 1) := by decide +kernel
theorem dX2_sparksToOut_19 : decode cX2_sparksToOut 19 = .ok (.getfield 15, 3) := by decide +kernel
theorem dX2_sparksToOut_22 : decode cX2_sparksToOut 22 = .ok (.iload_n 1, 1) := by decide +kernel
theorem dX2_sparksToOut_23 : decode cX2_sparksToOut 23 = .ok (.iaload, 1) := by decide +kernel
theorem dX2_sparksToOut_24 : decode cX2_sparksToOut 24 = .ok (.iload_n 2, 1) := by decide +kernel
theorem dX2_sparksToOut_25 : decode cX2_sparksToOut 25 = .ok (.iadd, 1) := by decide +kernel
theorem dX2_sparksToOut_26 : decode cX2_sparksToOut 26 = .ok (.iconst 1, 1) := by decide +kernel
theorem dX2_sparksToOut_27 : decode cX2_sparksToOut 27 = .ok (.isub, 1) := by decide +kernel
theorem dX2_sparksToOut_28 : decode cX2_sparksToOut 28 = .ok (.iload_n 2, 1) := by decide +kernel
theorem dX2_sparksToOut_29 : decode cX2_sparksToOut 29 = .ok (.idiv, 1) := by decide +kernel
theorem dX2_sparksToOut_30 : decode cX2_sparksToOut 30 = .ok (.ireturn, 1) := by decide +kernel
def Pt_sparksToOut (ν : Nm) (x0 : Nat) (x1 : Int32) : Option Int32 :=
  if inb x1 4 then
  (In_bitCount (gi ν (x0 + 2) x1.toNatClampNeg)).bind fun v2 =>
  (if ¬ v2 = 0 then
    if inb x1 4 then
    if v2 = 0 then none else
    some ((((gi ν (x0 + 1) x1.toNatClampNeg) + v2) - (1 : Int32)) / v2)
    else none
  else
    some (-1 : Int32))
  else none
set_option maxRecDepth 100000 in
set_option maxHeartbeats 4000000 in
theorem t_Pt_sparksToOut {g : GG} {d : Nat} {ν : Nm} (hd0 : 2 ≤ d) : ∀ (x0 : Nat) (x1 : Int32) (r : Int32), zk 333 x0 (1, 0) → Pt_sparksToOut ν x0 x1 = some r → Z g d (0, 0) mX2_sparksToOut 333 0 0 0 [(0, .ref x0), (1, .int x1)] [] (zem ν) (zF g (some (.int r), zem ν)) := by
  intro x0 x1 r hq0 h
  unfold Pt_sparksToOut at h
  refine z_aload_n dX2_sparksToOut_0 0 rfl ?_
  refine y_getR (M := mX2_sparksToOut) (r := (x0 + 2)) dX2_sparksToOut_1 hq0 flRX2_19 fr_1_5.1 (fr_1_5.2 _) ?_
  refine z_iload_n dX2_sparksToOut_4 1 rfl ?_
  obtain ⟨hi1, h⟩ := oif h
  refine y_iald (M := mX2_sparksToOut) (jj := x1.toNatClampNeg) dX2_sparksToOut_5 (zko_1_5 hq0) hi1 rfl ?_
  obtain ⟨v2, he2, h⟩ := obind h
  refine y_Si (M := mX2_sparksToOut) (Y := mJ6_bitCount_0f7a4) (d2 := d - 1) (As := [.int (gi ν (x0 + 2) x1.toNatClampNeg)]) (st := []) dX2_sparksToOut_6 mlRX2_55 cv_J6_bitCount_0f7a4 (ct_In_bitCount (dle (Nat.le_of_ble_eq_true rfl) hd0) he2) (dps (Nat.le_of_ble_eq_true rfl) hd0) rfl rfl (Nat.le_of_ble_eq_true rfl) ?_
  refine z_istore_n (M := mX2_sparksToOut) (lv2 := [(2, .int v2), (0, .ref x0), (1, .int x1)]) dX2_sparksToOut_9 (Nat.le_of_ble_eq_true rfl) rfl ?_
  refine z_iload_n dX2_sparksToOut_10 0 rfl ?_
  refine z_if_ne 18 dX2_sparksToOut_11 rfl (fun hc3 => ?_) (fun hc3 => ?_)
  · replace h := oT hc3 h
    refine z_aload_n dX2_sparksToOut_18 1 rfl ?_
    refine y_getR (M := mX2_sparksToOut) (r := (x0 + 1)) dX2_sparksToOut_19 hq0 flRX2_15 fr_1_4.1 (fr_1_4.2 _) ?_
    refine z_iload_n dX2_sparksToOut_22 2 rfl ?_
    obtain ⟨hi4, h⟩ := oif h
    refine y_iald (M := mX2_sparksToOut) (jj := x1.toNatClampNeg) dX2_sparksToOut_23 (zko_1_4 hq0) hi4 rfl ?_
    refine z_iload_n dX2_sparksToOut_24 0 rfl ?_
    refine z_iadd dX2_sparksToOut_25 ?_
    refine z_iconst (M := mX2_sparksToOut) (v := 1) dX2_sparksToOut_26 rfl ?_
    refine z_isub dX2_sparksToOut_27 ?_
    refine z_iload_n dX2_sparksToOut_28 0 rfl ?_
    obtain ⟨hz5, h⟩ := oifn h
    refine z_idiv dX2_sparksToOut_29 hz5 ?_
    cases h
    exact z_iret dX2_sparksToOut_30 rfl
  · replace h := oFn hc3 h
    refine z_iconst (M := mX2_sparksToOut) (v := -1) dX2_sparksToOut_14 rfl ?_
    refine z_goto 30 dX2_sparksToOut_15 rfl ?_
    cases h
    exact z_iret dX2_sparksToOut_30 rfl
theorem ct_Pt_sparksToOut {g : GG} {d : Nat} {x0 : Nat} {x1 : Int32} {ν : Nm} {r : Int32} (hd0 : 2 ≤ d) (hq0 : zk 333 x0 (1, 0)) (h : Pt_sparksToOut ν x0 x1 = some r) : Ct g d mX2_sparksToOut [.ref x0, .int x1] (zem ν) (some (.int r), zem ν) := y_entry in_X2_sparksToOut (Nat.le_of_ble_eq_true rfl) rfl (t_Pt_sparksToOut hd0 x0 x1 r hq0 h)
-- FuseMinutes$Pit.sparksToNextOut()I
theorem dX2_sparksToNextOut_0 : decode cX2_sparksToNextOut 0 = .ok (.iconst (-1), 1) := by decide +kernel
theorem dX2_sparksToNextOut_1 : decode cX2_sparksToNextOut 1 = .ok (.istore_n 1, 1) := by decide +kernel
theorem dX2_sparksToNextOut_2 : decode cX2_sparksToNextOut 2 = .ok (.iconst 0, 1) := by decide +kernel
theorem dX2_sparksToNextOut_3 : decode cX2_sparksToNextOut 3 = .ok (.istore_n 2, 1) := by decide +kernel
theorem dX2_sparksToNextOut_4 : decode cX2_sparksToNextOut 4 = .ok (.iload_n 2, 1) := by decide +kernel
theorem dX2_sparksToNextOut_5 : decode cX2_sparksToNextOut 5 = .ok (.iconst 4, 1) := by decide +kernel
theorem dX2_sparksToNextOut_6 : decode cX2_sparksToNextOut 6 = .ok (.if_icmp .ge 32, 3) := by decide +kernel
theorem dX2_sparksToNextOut_9 : decode cX2_sparksToNextOut 9 = .ok (.aload_n 0, 1) := by decide +kernel
theorem dX2_sparksToNextOut_10 : decode cX2_sparksToNextOut 10 = .ok (.iload_n 2, 1) := by decide +kernel
theorem dX2_sparksToNextOut_11 : decode cX2_sparksToNextOut 11 = .ok (.invokevirtual 61, 3) := by decide +kernel
theorem dX2_sparksToNextOut_14 : decode cX2_sparksToNextOut 14 = .ok (.istore_n 3, 1) := by decide +kernel
theorem dX2_sparksToNextOut_15 : decode cX2_sparksToNextOut 15 = .ok (.iload_n 3, 1) := by decide +kernel
theorem dX2_sparksToNextOut_16 : decode cX2_sparksToNextOut 16 = .ok (.iconst (-1), 1) := by decide +kernel
theorem dX2_sparksToNextOut_17 : decode cX2_sparksToNextOut 17 = .ok (.if_icmp .eq 15, 3) := by decide +kernel
theorem dX2_sparksToNextOut_20 : decode cX2_sparksToNextOut 20 = .ok (.iload_n 1, 1) := by decide +kernel
theorem dX2_sparksToNextOut_21 : decode cX2_sparksToNextOut 21 = .ok (.iconst (-1), 1) := by decide +kernel
theorem dX2_sparksToNextOut_22 : decode cX2_sparksToNextOut 22 = .ok (.if_icmp .eq 8, 3) := by decide +kernel
theorem dX2_sparksToNextOut_25 : decode cX2_sparksToNextOut 25 = .ok (.iload_n 3, 1) := by decide +kernel
theorem dX2_sparksToNextOut_26 : decode cX2_sparksToNextOut 26 = .ok (.iload_n 1, 1) := by decide +kernel
theorem dX2_sparksToNextOut_27 : decode cX2_sparksToNextOut 27 = .ok (.if_icmp .ge 5, 3) := by decide +kernel
theorem dX2_sparksToNextOut_30 : decode cX2_sparksToNextOut 30 = .ok (.iload_n 3, 1) := by decide +kernel
theorem dX2_sparksToNextOut_31 : decode cX2_sparksToNextOut 31 = .ok (.istore_n 1, 1) := by decide +kernel
theorem dX2_sparksToNextOut_32 : decode cX2_sparksToNextOut 32 = .ok (.iinc 2 1, 3) := by decide +kernel
theorem dX2_sparksToNextOut_35 : decode cX2_sparksToNextOut 35 = .ok (.goto (-31), 3) := by decide +kernel
theorem dX2_sparksToNextOut_38 : decode cX2_sparksToNextOut 38 = .ok (.iload_n 1, 1) := by decide +kernel
theorem dX2_sparksToNextOut_39 : decode cX2_sparksToNextOut 39 = .ok (.ireturn, 1) := by decide +kernel
def Pt_sparksToNextOut_32 (ν : Nm) (k4 : Nat → Int32 → Int32 → Option Int32) (x0 : Nat) (x1 : Int32) (x2 : Int32) : Option Int32 :=
  k4 x0 x1 (x2 + (1 : Int32))
set_option maxRecDepth 100000 in
set_option maxHeartbeats 4000000 in
theorem t_Pt_sparksToNextOut_32 {g : GG} {d : Nat} {ν : Nm} (hd0 : 3 ≤ d) {k4 : Nat → Int32 → Int32 → Option Int32} (hk4 : ∀ (x0 : Nat) (x1 : Int32) (x2 : Int32) (r : Int32), zk 333 x0 (1, 0) → k4 x0 x1 x2 = some r → Z g d (0, 0) mX2_sparksToNextOut 333 0 0 4 [(0, .ref x0), (1, .int x1), (2, .int x2)] [] (zem ν) (zF g (some (.int r), zem ν))) : ∀ (x0 : Nat) (x1 : Int32) (x2 : Int32) (r : Int32), zk 333 x0 (1, 0) → Pt_sparksToNextOut_32 ν k4 x0 x1 x2 = some r → Z g d (0, 0) mX2_sparksToNextOut 333 0 0 32 [(0, .ref x0), (1, .int x1), (2, .int x2)] [] (zem ν) (zF g (some (.int r), zem ν)) := by
  intro x0 x1 x2 r hq0 h
  unfold Pt_sparksToNextOut_32 at h
  refine z_iinc (M := mX2_sparksToNextOut) (v := (x2 + (1 : Int32))) (lv2 := [(2, .int (x2 + (1 : Int32))), (0, .ref x0), (1, .int x1)]) dX2_sparksToNextOut_32 2 rfl rfl (Nat.le_of_ble_eq_true rfl) rfl ?_
  refine z_goto 4 dX2_sparksToNextOut_35 rfl ?_
  refine z_lv (lv2 := [(0, .ref x0), (1, .int x1), (2, .int (x2 + (1 : Int32)))]) [1, 2, 0] rfl ?_
  exact hk4 x0 x1 (x2 + (1 : Int32)) _ hq0 h
def Pt_sparksToNextOut_30 (ν : Nm) (k4 : Nat → Int32 → Int32 → Option Int32) (x0 : Nat) (x2 : Int32) (x3 : Int32) : Option Int32 :=
  Pt_sparksToNextOut_32 ν k4 x0 x3 x2
set_option maxRecDepth 100000 in
set_option maxHeartbeats 4000000 in
theorem t_Pt_sparksToNextOut_30 {g : GG} {d : Nat} {ν : Nm} (hd0 : 3 ≤ d) {k4 : Nat → Int32 → Int32 → Option Int32} (hk4 : ∀ (x0 : Nat) (x1 : Int32) (x2 : Int32) (r : Int32), zk 333 x0 (1, 0) → k4 x0 x1 x2 = some r → Z g d (0, 0) mX2_sparksToNextOut 333 0 0 4 [(0, .ref x0), (1, .int x1), (2, .int x2)] [] (zem ν) (zF g (some (.int r), zem ν))) : ∀ (x0 : Nat) (x2 : Int32) (x3 : Int32) (r : Int32), zk 333 x0 (1, 0) → Pt_sparksToNextOut_30 ν k4 x0 x2 x3 = some r → Z g d (0, 0) mX2_sparksToNextOut 333 0 0 30 [(0, .ref x0), (2, .int x2), (3, .int x3)] [] (zem ν) (zF g (some (.int r), zem ν)) := by
  intro x0 x2 x3 r hq0 h
  unfold Pt_sparksToNextOut_30 at h
  refine z_iload_n dX2_sparksToNextOut_30 2 rfl ?_
  refine z_istore_n (M := mX2_sparksToNextOut) (lv2 := [(1, .int x3), (0, .ref x0), (2, .int x2), (3, .int x3)]) dX2_sparksToNextOut_31 (Nat.le_of_ble_eq_true rfl) rfl ?_
  refine z_lv (lv2 := [(0, .ref x0), (1, .int x3), (2, .int x2)]) [1, 0, 2] rfl ?_
  exact t_Pt_sparksToNextOut_32 hd0 hk4 x0 x3 x2 _ hq0 h
def Pt_sparksToNextOut_4 (ν : Nm) : Nat → Nat → Int32 → Int32 → Option Int32
  | 0, _, _, _ => none
  | f + 1, x0, x1, x2 =>
    (if (4 : Int32) ≤ x2 then
      some x1
    else
      (Pt_sparksToOut ν x0 x2).bind fun v2 =>
      (if v2 = (-1 : Int32) then
        Pt_sparksToNextOut_32 ν (Pt_sparksToNextOut_4 ν f) x0 x1 x2
      else
        (if x1 = (-1 : Int32) then
          Pt_sparksToNextOut_30 ν (Pt_sparksToNextOut_4 ν f) x0 x2 v2
        else
          (if x1 ≤ v2 then
            Pt_sparksToNextOut_32 ν (Pt_sparksToNextOut_4 ν f) x0 x1 x2
          else
            Pt_sparksToNextOut_30 ν (Pt_sparksToNextOut_4 ν f) x0 x2 v2))))
set_option maxRecDepth 100000 in
set_option maxHeartbeats 4000000 in
theorem t_Pt_sparksToNextOut_4 {g : GG} {d : Nat} {ν : Nm} (hd0 : 3 ≤ d) : ∀ (f : Nat), ∀ (x0 : Nat) (x1 : Int32) (x2 : Int32) (r : Int32), zk 333 x0 (1, 0) → Pt_sparksToNextOut_4 ν f x0 x1 x2 = some r → Z g d (0, 0) mX2_sparksToNextOut 333 0 0 4 [(0, .ref x0), (1, .int x1), (2, .int x2)] [] (zem ν) (zF g (some (.int r), zem ν)) := by
  intro f
  induction f with
  | zero =>
    intro x0 x1 x2 r hq0 h
    cases h
  | succ f ih =>
    intro x0 x1 x2 r hq0 h
    rw [Pt_sparksToNextOut_4] at h
    refine z_iload_n dX2_sparksToNextOut_4 2 rfl ?_
    refine z_iconst (M := mX2_sparksToNextOut) (v := 4) dX2_sparksToNextOut_5 rfl ?_
    refine z_icmp_ge 38 dX2_sparksToNextOut_6 rfl (fun hc1 => ?_) (fun hc1 => ?_)
    · replace h := oT hc1 h
      refine z_iload_n dX2_sparksToNextOut_38 1 rfl ?_
      cases h
      exact z_iret dX2_sparksToNextOut_39 rfl
    · replace h := oF hc1 h
      refine z_aload_n dX2_sparksToNextOut_9 0 rfl ?_
      refine z_iload_n dX2_sparksToNextOut_10 2 rfl ?_
      obtain ⟨v2, he2, h⟩ := obind h
      refine y_Vi (M := mX2_sparksToNextOut) (Y := mX2_sparksToOut) (d2 := d - 1) (As := [.int x2]) (st := []) dX2_sparksToNextOut_11 mlRX2_61 cv_X2_sparksToOut hq0 (ct_Pt_sparksToOut (dle (Nat.le_of_ble_eq_true rfl) hd0) hq0 he2) (dps (Nat.le_of_ble_eq_true rfl) hd0) rfl rfl (Nat.le_of_ble_eq_true rfl) ?_
      refine z_istore_n (M := mX2_sparksToNextOut) (lv2 := [(3, .int v2), (0, .ref x0), (1, .int x1), (2, .int x2)]) dX2_sparksToNextOut_14 (Nat.le_of_ble_eq_true rfl) rfl ?_
      refine z_iload_n dX2_sparksToNextOut_15 0 rfl ?_
      refine z_iconst (M := mX2_sparksToNextOut) (v := -1) dX2_sparksToNextOut_16 rfl ?_
      refine z_icmp_eq 32 dX2_sparksToNextOut_17 rfl (fun hc3 => ?_) (fun hc3 => ?_)
      · replace h := oT hc3 h
        refine z_lv (lv2 := [(0, .ref x0), (1, .int x1), (2, .int x2)]) [1, 2, 3] rfl ?_
        exact t_Pt_sparksToNextOut_32 hd0 ih x0 x1 x2 _ hq0 h
      · replace h := oF hc3 h
        refine z_iload_n dX2_sparksToNextOut_20 2 rfl ?_
        refine z_iconst (M := mX2_sparksToNextOut) (v := -1) dX2_sparksToNextOut_21 rfl ?_
        refine z_icmp_eq 30 dX2_sparksToNextOut_22 rfl (fun hc4 => ?_) (fun hc4 => ?_)
        · replace h := oT hc4 h
          refine z_lv (lv2 := [(0, .ref x0), (2, .int x2), (3, .int v2)]) [1, 3, 0] rfl ?_
          exact t_Pt_sparksToNextOut_30 hd0 ih x0 x2 v2 _ hq0 h
        · replace h := oF hc4 h
          refine z_iload_n dX2_sparksToNextOut_25 0 rfl ?_
          refine z_iload_n dX2_sparksToNextOut_26 2 rfl ?_
          refine z_icmp_ge 32 dX2_sparksToNextOut_27 rfl (fun hc5 => ?_) (fun hc5 => ?_)
          · replace h := oT hc5 h
            refine z_lv (lv2 := [(0, .ref x0), (1, .int x1), (2, .int x2)]) [1, 2, 3] rfl ?_
            exact t_Pt_sparksToNextOut_32 hd0 ih x0 x1 x2 _ hq0 h
          · replace h := oF hc5 h
            refine z_lv (lv2 := [(0, .ref x0), (2, .int x2), (3, .int v2)]) [1, 3, 0] rfl ?_
            exact t_Pt_sparksToNextOut_30 hd0 ih x0 x2 v2 _ hq0 h
def Pt_sparksToNextOut (ν : Nm) (x0 : Nat) : Option Int32 :=
  Pt_sparksToNextOut_4 ν FU x0 (-1 : Int32) (0 : Int32)
set_option maxRecDepth 100000 in
set_option maxHeartbeats 4000000 in
theorem t_Pt_sparksToNextOut {g : GG} {d : Nat} {ν : Nm} (hd0 : 3 ≤ d) : ∀ (x0 : Nat) (r : Int32), zk 333 x0 (1, 0) → Pt_sparksToNextOut ν x0 = some r → Z g d (0, 0) mX2_sparksToNextOut 333 0 0 0 [(0, .ref x0)] [] (zem ν) (zF g (some (.int r), zem ν)) := by
  intro x0 r hq0 h
  unfold Pt_sparksToNextOut at h
  refine z_iconst (M := mX2_sparksToNextOut) (v := -1) dX2_sparksToNextOut_0 rfl ?_
  refine z_istore_n (M := mX2_sparksToNextOut) (lv2 := [(1, .int (-1 : Int32)), (0, .ref x0)]) dX2_sparksToNextOut_1 (Nat.le_of_ble_eq_true rfl) rfl ?_
  refine z_iconst (M := mX2_sparksToNextOut) (v := 0) dX2_sparksToNextOut_2 rfl ?_
  refine z_istore_n (M := mX2_sparksToNextOut) (lv2 := [(2, .int (0 : Int32)), (1, .int (-1 : Int32)), (0, .ref x0)]) dX2_sparksToNextOut_3 (Nat.le_of_ble_eq_true rfl) rfl ?_
  refine z_lv (lv2 := [(0, .ref x0), (1, .int (-1 : Int32)), (2, .int (0 : Int32))]) [2, 1, 0] rfl ?_
  exact t_Pt_sparksToNextOut_4 hd0 FU x0 (-1 : Int32) (0 : Int32) _ hq0 h
theorem ct_Pt_sparksToNextOut {g : GG} {d : Nat} {x0 : Nat} {ν : Nm} {r : Int32} (hd0 : 3 ≤ d) (hq0 : zk 333 x0 (1, 0)) (h : Pt_sparksToNextOut ν x0 = some r) : Ct g d mX2_sparksToNextOut [.ref x0] (zem ν) (some (.int r), zem ν) := y_entry in_X2_sparksToNextOut (Nat.le_of_ble_eq_true rfl) rfl (t_Pt_sparksToNextOut hd0 x0 r hq0 h)
-- FuseMinutes$Pit.sparksToBurn()I
theorem dX2_sparksToBurn_0 : decode cX2_sparksToBurn 0 = .ok (.aload_n 0, 1) := by decide +kernel
theorem dX2_sparksToBurn_1 : decode cX2_sparksToBurn 1 = .ok (.invokevirtual 64, 3) := by decide +kernel
theorem dX2_sparksToBurn_4 : decode cX2_sparksToBurn 4 = .ok (.istore_n 1, 1) := by decide +kernel
theorem dX2_sparksToBurn_5 : decode cX2_sparksToBurn 5 = .ok (.iload_n 1, 1) := by decide +kernel
theorem dX2_sparksToBurn_6 : decode cX2_sparksToBurn 6 = .ok (.iconst (-1), 1) := by decide +kernel
theorem dX2_sparksToBurn_7 : decode cX2_sparksToBurn 7 = .ok (.if_icmp .eq 14, 3) := by decide +kernel
theorem dX2_sparksToBurn_10 : decode cX2_sparksToBurn 10 = .ok (.aload_n 0, 1) := by decide +kernel
theorem dX2_sparksToBurn_11 : decode cX2_sparksToBurn 11 = .ok (.getfield 28, 3) := by decide +kernel
theorem dX2_sparksToBurn_14 : decode cX2_sparksToBurn 14 = .ok (.iload_n 1, 1) := by decide +kernel
theorem dX2_sparksToBurn_15 : decode cX2_sparksToBurn 15 = .ok (.iadd, 1) := by decide +kernel
theorem dX2_sparksToBurn_16 : decode cX2_sparksToBurn 16 = .ok (.ldc 68, 2) := by decide +kernel
theorem dX2_sparksToBurn_18 : decode cX2_sparksToBurn 18 = .ok (.if_icmp .le 7, 3) := by decide +kernel
theorem dX2_sparksToBurn_21 : decode cX2_sparksToBurn 21 = .ok (.iconst (-1), 1) := by decide +kernel
theorem dX2_sparksToBurn_22 : decode cX2_sparksToBurn 22 = .ok (.goto 4, 3) := by decide +kernel
theorem dX2_sparksToBurn_25 : decode cX2_sparksToBurn 25 = .ok (.iload_n 1, 1) := by decide +kernel
theorem dX2_sparksToBurn_26 : decode cX2_sparksToBurn 26 = .ok (.ireturn, 1) := by decide +kernel
def Pt_sparksToBurn (ν : Nm) (x0 : Nat) : Option Int32 :=
  (Pt_sparksToNextOut ν x0).bind fun v1 =>
  (if v1 = (-1 : Int32) then
    some (-1 : Int32)
  else
    (if ((gi ν x0 1) + v1) ≤ (639936 : Int32) then
      some v1
    else
      some (-1 : Int32)))
set_option maxRecDepth 100000 in
set_option maxHeartbeats 4000000 in
theorem t_Pt_sparksToBurn {g : GG} {d : Nat} {ν : Nm} (hd0 : 4 ≤ d) : ∀ (x0 : Nat) (r : Int32), zk 333 x0 (1, 0) → Pt_sparksToBurn ν x0 = some r → Z g d (0, 0) mX2_sparksToBurn 333 0 0 0 [(0, .ref x0)] [] (zem ν) (zF g (some (.int r), zem ν)) := by
  intro x0 r hq0 h
  unfold Pt_sparksToBurn at h
  refine z_aload_n dX2_sparksToBurn_0 0 rfl ?_
  obtain ⟨v1, he1, h⟩ := obind h
  refine y_Vi (M := mX2_sparksToBurn) (Y := mX2_sparksToNextOut) (d2 := d - 1) (As := []) (st := []) dX2_sparksToBurn_1 mlRX2_64 cv_X2_sparksToNextOut hq0 (ct_Pt_sparksToNextOut (dle (Nat.le_of_ble_eq_true rfl) hd0) hq0 he1) (dps (Nat.le_of_ble_eq_true rfl) hd0) rfl rfl (Nat.le_of_ble_eq_true rfl) ?_
  refine z_istore_n (M := mX2_sparksToBurn) (lv2 := [(1, .int v1), (0, .ref x0)]) dX2_sparksToBurn_4 (Nat.le_of_ble_eq_true rfl) rfl ?_
  refine z_iload_n dX2_sparksToBurn_5 0 rfl ?_
  refine z_iconst (M := mX2_sparksToBurn) (v := -1) dX2_sparksToBurn_6 rfl ?_
  refine z_icmp_eq 21 dX2_sparksToBurn_7 rfl (fun hc2 => ?_) (fun hc2 => ?_)
  · replace h := oT hc2 h
    refine z_iconst (M := mX2_sparksToBurn) (v := -1) dX2_sparksToBurn_21 rfl ?_
    refine z_goto 26 dX2_sparksToBurn_22 rfl ?_
    cases h
    exact z_iret dX2_sparksToBurn_26 rfl
  · replace h := oF hc2 h
    refine z_aload_n dX2_sparksToBurn_10 1 rfl ?_
    refine y_getI dX2_sparksToBurn_11 hq0 flRX2_28 ?_
    refine z_iload_n dX2_sparksToBurn_14 0 rfl ?_
    refine z_iadd dX2_sparksToBurn_15 ?_
    refine z_ldc dX2_sparksToBurn_16 csRX2_68 ?_
    refine z_icmp_le 25 dX2_sparksToBurn_18 rfl (fun hc3 => ?_) (fun hc3 => ?_)
    · replace h := oT hc3 h
      refine z_iload_n dX2_sparksToBurn_25 0 rfl ?_
      cases h
      exact z_iret dX2_sparksToBurn_26 rfl
    · replace h := oF hc3 h
      refine z_iconst (M := mX2_sparksToBurn) (v := -1) dX2_sparksToBurn_21 rfl ?_
      refine z_goto 26 dX2_sparksToBurn_22 rfl ?_
      cases h
      exact z_iret dX2_sparksToBurn_26 rfl
theorem ct_Pt_sparksToBurn {g : GG} {d : Nat} {x0 : Nat} {ν : Nm} {r : Int32} (hd0 : 4 ≤ d) (hq0 : zk 333 x0 (1, 0)) (h : Pt_sparksToBurn ν x0 = some r) : Ct g d mX2_sparksToBurn [.ref x0] (zem ν) (some (.int r), zem ν) := y_entry in_X2_sparksToBurn (Nat.le_of_ble_eq_true rfl) rfl (t_Pt_sparksToBurn hd0 x0 r hq0 h)
-- FuseMinutes$Pit.hasTimeFor(I)Z
theorem dX2_hasTimeFor_0 : decode cX2_hasTimeFor 0 = .ok (.aload_n 0, 1) := by decide +kernel
theorem dX2_hasTimeFor_1 : decode cX2_hasTimeFor 1 = .ok (.getfield 28, 3) := by decide +kernel
theorem dX2_hasTimeFor_4 : decode cX2_hasTimeFor 4 = .ok (.iload_n 1, 1) := by decide +kernel
theorem dX2_hasTimeFor_5 : decode cX2_hasTimeFor 5 = .ok (.bipush 64, 2) := by decide +kernel
theorem dX2_hasTimeFor_7 : decode cX2_hasTimeFor 7 = .ok (.imul, 1) := by decide +kernel
theorem dX2_hasTimeFor_8 : decode cX2_hasTimeFor 8 = .ok (.iadd, 1) := by decide +kernel
theorem dX2_hasTimeFor_9 : decode cX2_hasTimeFor 9 = .ok (.ldc 68, 2) := by decide +kernel
theorem dX2_hasTimeFor_11 : decode cX2_hasTimeFor 11 = .ok (.if_icmp .gt 7, 3) := by decide +kernel
theorem dX2_hasTimeFor_14 : decode cX2_hasTimeFor 14 = .ok (.iconst 1, 1) := by decide +kernel
theorem dX2_hasTimeFor_15 : decode cX2_hasTimeFor 15 = .ok (.goto 4, 3) := by decide +kernel
theorem dX2_hasTimeFor_18 : decode cX2_hasTimeFor 18 = .ok (.iconst 0, 1) := by decide +kernel
theorem dX2_hasTimeFor_19 : decode cX2_hasTimeFor 19 = .ok (.ireturn, 1) := by decide +kernel
def Pt_hasTimeFor (ν : Nm) (x0 : Nat) (x1 : Int32) : Option Bool :=
  (if (639936 : Int32) < ((gi ν x0 1) + (x1 * (64 : Int32))) then
    some false
  else
    some true)
set_option maxRecDepth 100000 in
set_option maxHeartbeats 4000000 in
theorem t_Pt_hasTimeFor {g : GG} {d : Nat} {ν : Nm} (hd0 : 1 ≤ d) : ∀ (x0 : Nat) (x1 : Int32) (r : Bool), zk 333 x0 (1, 0) → Pt_hasTimeFor ν x0 x1 = some r → Z g d (0, 0) mX2_hasTimeFor 333 0 0 0 [(0, .ref x0), (1, .int x1)] [] (zem ν) (zF g (some (.int (b2i r)), zem ν)) := by
  intro x0 x1 r hq0 h
  unfold Pt_hasTimeFor at h
  refine z_aload_n dX2_hasTimeFor_0 0 rfl ?_
  refine y_getI dX2_hasTimeFor_1 hq0 flRX2_28 ?_
  refine z_iload_n dX2_hasTimeFor_4 1 rfl ?_
  refine z_bipush (M := mX2_hasTimeFor) (v := 64) dX2_hasTimeFor_5 rfl ?_
  refine z_imul dX2_hasTimeFor_7 ?_
  refine z_iadd dX2_hasTimeFor_8 ?_
  refine z_ldc dX2_hasTimeFor_9 csRX2_68 ?_
  refine z_icmp_gt 18 dX2_hasTimeFor_11 rfl (fun hc1 => ?_) (fun hc1 => ?_)
  · replace h := oT hc1 h
    refine z_iconst (M := mX2_hasTimeFor) (v := 0) dX2_hasTimeFor_18 rfl ?_
    cases h
    exact z_zret dX2_hasTimeFor_19 rfl rfl
  · replace h := oF hc1 h
    refine z_iconst (M := mX2_hasTimeFor) (v := 1) dX2_hasTimeFor_14 rfl ?_
    refine z_goto 19 dX2_hasTimeFor_15 rfl ?_
    cases h
    exact z_zret dX2_hasTimeFor_19 rfl rfl
theorem ct_Pt_hasTimeFor {g : GG} {d : Nat} {x0 : Nat} {x1 : Int32} {ν : Nm} {r : Bool} (hd0 : 1 ≤ d) (hq0 : zk 333 x0 (1, 0)) (h : Pt_hasTimeFor ν x0 x1 = some r) : Ct g d mX2_hasTimeFor [.ref x0, .int x1] (zem ν) (some (.int (b2i r)), zem ν) := y_entry in_X2_hasTimeFor (Nat.le_of_ble_eq_true rfl) rfl (t_Pt_hasTimeFor hd0 x0 x1 r hq0 h)
-- FuseMinutes$Pit.passWithin(I)I
theorem dX2_passWithin_0 : decode cX2_passWithin 0 = .ok (.iconst 0, 1) := by decide +kernel
theorem dX2_passWithin_1 : decode cX2_passWithin 1 = .ok (.istore_n 2, 1) := by decide +kernel
theorem dX2_passWithin_2 : decode cX2_passWithin 2 = .ok (.aload_n 0, 1) := by decide +kernel
theorem dX2_passWithin_3 : decode cX2_passWithin 3 = .ok (.dup, 1) := by decide +kernel
theorem dX2_passWithin_4 : decode cX2_passWithin 4 = .ok (.getfield 28, 3) := by decide +kernel
theorem dX2_passWithin_7 : decode cX2_passWithin 7 = .ok (.iload_n 1, 1) := by decide +kernel
theorem dX2_passWithin_8 : decode cX2_passWithin 8 = .ok (.iadd, 1) := by decide +kernel
theorem dX2_passWithin_9 : decode cX2_passWithin 9 = .ok (.putfield 28, 3) := by decide +kernel
theorem dX2_passWithin_12 : decode cX2_passWithin 12 = .ok (.aload_n 0, 1) := by decide +kernel
theorem dX2_passWithin_13 : decode cX2_passWithin 13 = .ok (.iconst 0, 1) := by decide +kernel
theorem dX2_passWithin_14 : decode cX2_passWithin 14 = .ok (.putfield 31, 3) := by decide +kernel
theorem dX2_passWithin_17 : decode cX2_passWithin 17 = .ok (.iconst 0, 1) := by decide +kernel
theorem dX2_passWithin_18 : decode cX2_passWithin 18 = .ok (.istore_n 3, 1) := by decide +kernel
theorem dX2_passWithin_19 : decode cX2_passWithin 19 = .ok (.iload_n 3, 1) := by decide +kernel
theorem dX2_passWithin_20 : decode cX2_passWithin 20 = .ok (.iconst 4, 1) := by decide +kernel
theorem dX2_passWithin_21 : decode cX2_passWithin 21 = .ok (.if_icmp .ge 72, 3) := by decide +kernel
theorem dX2_passWithin_24 : decode cX2_passWithin 24 = .ok (.aload_n 0, 1) := by decide +kernel
theorem dX2_passWithin_25 : decode cX2_passWithin 25 = .ok (.getfield 19, 3) := by decide +kernel
theorem dX2_passWithin_28 : decode cX2_passWithin 28 = .ok (.iload_n 3, 1) := by decide +kernel
theorem dX2_passWithin_29 : decode cX2_passWithin 29 = .ok (.iaload, 1) := by decide +kernel
theorem dX2_passWithin_30 : decode cX2_passWithin 30 = .ok (.ifCond .eq 57, 3) := by decide +kernel
theorem dX2_passWithin_33 : decode cX2_passWithin 33 = .ok (.aload_n 0, 1) := by decide +kernel
theorem dX2_passWithin_34 : decode cX2_passWithin 34 = .ok (.getfield 15, 3) := by decide +kernel
theorem dX2_passWithin_37 : decode cX2_passWithin 37 = .ok (.iload_n 3, 1) := by decide +kernel
theorem dX2_passWithin_38 : decode cX2_passWithin 38 = .ok (.iconst 0, 1) := by decide +kernel
theorem dX2_passWithin_39 : decode cX2_passWithin 39 = .ok (.aload_n 0, 1) := by decide +kernel
theorem dX2_passWithin_40 : decode cX2_passWithin 40 = .ok (.getfield 15, 3) := by decide +kernel
theorem dX2_passWithin_43 : decode cX2_passWithin 43 = .ok (.iload_n 3, 1) := by decide +kernel
theorem dX2_passWithin_44 : decode cX2_passWithin 44 = .ok (.iaload, 1) := by decide +kernel
theorem dX2_passWithin_45 : decode cX2_passWithin 45 = .ok (.iload_n 1, 1) := by decide +kernel
theorem dX2_passWithin_46 : decode cX2_passWithin 46 = .ok (.aload_n 0, 1) := by decide +kernel
theorem dX2_passWithin_47 : decode cX2_passWithin 47 = .ok (.getfield 19, 3) := by decide +kernel
theorem dX2_passWithin_50 : decode cX2_passWithin 50 = .ok (.iload_n 3, 1) := by decide +kernel
theorem dX2_passWithin_51 : decode cX2_passWithin 51 = .ok (.iaload, 1) := by decide +kernel
theorem dX2_passWithin_52 : decode cX2_passWithin 52 = .ok (.invokestatic 55, 3) := by decide +kernel
theorem dX2_passWithin_55 : decode cX2_passWithin 55 = .ok (.imul, 1) := by decide +kernel
theorem dX2_passWithin_56 : decode cX2_passWithin 56 = .ok (.isub, 1) := by decide +kernel
theorem dX2_passWithin_57 : decode cX2_passWithin 57 = .ok (.invokestatic 78, 3) := by decide +kernel
theorem dX2_passWithin_60 : decode cX2_passWithin 60 = .ok (.iastore, 1) := by decide +kernel
theorem dX2_passWithin_61 : decode cX2_passWithin 61 = .ok (.aload_n 0, 1) := by decide +kernel
theorem dX2_passWithin_62 : decode cX2_passWithin 62 = .ok (.getfield 15, 3) := by decide +kernel
theorem dX2_passWithin_65 : decode cX2_passWithin 65 = .ok (.iload_n 3, 1) := by decide +kernel
theorem dX2_passWithin_66 : decode cX2_passWithin 66 = .ok (.iaload, 1) := by decide +kernel
theorem dX2_passWithin_67 : decode cX2_passWithin 67 = .ok (.ifCond .ne 20, 3) := by decide +kernel
theorem dX2_passWithin_70 : decode cX2_passWithin 70 = .ok (.aload_n 0, 1) := by decide +kernel
theorem dX2_passWithin_71 : decode cX2_passWithin 71 = .ok (.getfield 19, 3) := by decide +kernel
theorem dX2_passWithin_74 : decode cX2_passWithin 74 = .ok (.iload_n 3, 1) := by decide +kernel
theorem dX2_passWithin_75 : decode cX2_passWithin 75 = .ok (.iconst 0, 1) := by decide +kernel
theorem dX2_passWithin_76 : decode cX2_passWithin 76 = .ok (.iastore, 1) := by decide +kernel
theorem dX2_passWithin_77 : decode cX2_passWithin 77 = .ok (.aload_n 0, 1) := by decide +kernel
theorem dX2_passWithin_78 : decode cX2_passWithin 78 = .ok (.iload_n 3, 1) := by decide +kernel
theorem dX2_passWithin_79 : decode cX2_passWithin 79 = .ok (.iconst 3, 1) := by decide +kernel
theorem dX2_passWithin_80 : decode cX2_passWithin 80 = .ok (.iconst 0, 1) := by decide +kernel
theorem dX2_passWithin_81 : decode cX2_passWithin 81 = .ok (.invokevirtual 51, 3) := by decide +kernel
theorem dX2_passWithin_84 : decode cX2_passWithin 84 = .ok (.iinc 2 1, 3) := by decide +kernel
theorem dX2_passWithin_87 : decode cX2_passWithin 87 = .ok (.iinc 3 1, 3) := by decide +kernel
theorem dX2_passWithin_90 : decode cX2_passWithin 90 = .ok (.goto (-71), 3) := by decide +kernel
theorem dX2_passWithin_93 : decode cX2_passWithin 93 = .ok (.iload_n 2, 1) := by decide +kernel
theorem dX2_passWithin_94 : decode cX2_passWithin 94 = .ok (.ireturn, 1) := by decide +kernel
def Pt_passWithin_87 (k19 : Nat → Int32 → Int32 → Int32 → Nm → Option (Int32 × Nm)) (x0 : Nat) (x1 : Int32) (x2 : Int32) (x3 : Int32) (ν : Nm) : Option (Int32 × Nm) :=
  k19 x0 x1 x2 (x3 + (1 : Int32)) ν
set_option maxRecDepth 100000 in
set_option maxHeartbeats 4000000 in
theorem t_Pt_passWithin_87 {g : GG} {d : Nat} (hd0 : 2 ≤ d) {k19 : Nat → Int32 → Int32 → Int32 → Nm → Option (Int32 × Nm)} (hk19 : ∀ (x0 : Nat) (x1 : Int32) (x2 : Int32) (x3 : Int32) (ν : Nm) (r : (Int32 × Nm)), zk 333 x0 (1, 0) → k19 x0 x1 x2 x3 ν = some r → Z g d (0, 0) mX2_passWithin 333 0 0 19 [(0, .ref x0), (1, .int x1), (2, .int x2), (3, .int x3)] [] (zem ν) (zF g (some (.int r.1), zem r.2))) : ∀ (x0 : Nat) (x1 : Int32) (x2 : Int32) (x3 : Int32) (ν : Nm) (r : (Int32 × Nm)), zk 333 x0 (1, 0) → Pt_passWithin_87 k19 x0 x1 x2 x3 ν = some r → Z g d (0, 0) mX2_passWithin 333 0 0 87 [(0, .ref x0), (1, .int x1), (2, .int x2), (3, .int x3)] [] (zem ν) (zF g (some (.int r.1), zem r.2)) := by
  intro x0 x1 x2 x3 ν r hq0 h
  unfold Pt_passWithin_87 at h
  refine z_iinc (M := mX2_passWithin) (v := (x3 + (1 : Int32))) (lv2 := [(3, .int (x3 + (1 : Int32))), (0, .ref x0), (1, .int x1), (2, .int x2)]) dX2_passWithin_87 3 rfl rfl (Nat.le_of_ble_eq_true rfl) rfl ?_
  refine z_goto 19 dX2_passWithin_90 rfl ?_
  refine z_lv (lv2 := [(0, .ref x0), (1, .int x1), (2, .int x2), (3, .int (x3 + (1 : Int32)))]) [1, 2, 3, 0] rfl ?_
  exact hk19 x0 x1 x2 (x3 + (1 : Int32)) ν _ hq0 h
def Pt_passWithin_19 : Nat → Nat → Int32 → Int32 → Int32 → Nm → Option (Int32 × Nm)
  | 0, _, _, _, _, _ => none
  | f + 1, x0, x1, x2, x3, ν =>
    (if (4 : Int32) ≤ x3 then
      some (x2, ν)
    else
      if inb x3 4 then
      (if (gi ν (x0 + 2) x3.toNatClampNeg) = 0 then
        Pt_passWithin_87 (Pt_passWithin_19 f) x0 x1 x2 x3 ν
      else
        if inb x3 4 then
        if inb x3 4 then
        (In_bitCount (gi ν (x0 + 2) x3.toNatClampNeg)).bind fun v6 =>
        if inb x3 4 then
        if inb x3 4 then
        (if ¬ (gi (si ν (x0 + 1) x3.toNatClampNeg (imax (0 : Int32) ((gi ν (x0 + 1) x3.toNatClampNeg) - (x1 * v6)))) (x0 + 1) x3.toNatClampNeg) = 0 then
          Pt_passWithin_87 (Pt_passWithin_19 f) x0 x1 x2 x3 (si ν (x0 + 1) x3.toNatClampNeg (imax (0 : Int32) ((gi ν (x0 + 1) x3.toNatClampNeg) - (x1 * v6))))
        else
          if inb x3 4 then
          (Pt_writeDown x0 x3 (3 : Int32) (0 : Int32) (si (si ν (x0 + 1) x3.toNatClampNeg (imax (0 : Int32) ((gi ν (x0 + 1) x3.toNatClampNeg) - (x1 * v6)))) (x0 + 2) x3.toNatClampNeg (0 : Int32))).bind fun v11 =>
          Pt_passWithin_87 (Pt_passWithin_19 f) x0 x1 (x2 + (1 : Int32)) x3 v11
          else none)
        else none
        else none
        else none
        else none)
      else none)
set_option maxRecDepth 100000 in
set_option maxHeartbeats 4000000 in
theorem t_Pt_passWithin_19 {g : GG} {d : Nat} (hd0 : 2 ≤ d) : ∀ (f : Nat), ∀ (x0 : Nat) (x1 : Int32) (x2 : Int32) (x3 : Int32) (ν : Nm) (r : (Int32 × Nm)), zk 333 x0 (1, 0) → Pt_passWithin_19 f x0 x1 x2 x3 ν = some r → Z g d (0, 0) mX2_passWithin 333 0 0 19 [(0, .ref x0), (1, .int x1), (2, .int x2), (3, .int x3)] [] (zem ν) (zF g (some (.int r.1), zem r.2)) := by
  intro f
  induction f with
  | zero =>
    intro x0 x1 x2 x3 ν r hq0 h
    cases h
  | succ f ih =>
    intro x0 x1 x2 x3 ν r hq0 h
    rw [Pt_passWithin_19] at h
    refine z_iload_n dX2_passWithin_19 3 rfl ?_
    refine z_iconst (M := mX2_passWithin) (v := 4) dX2_passWithin_20 rfl ?_
    refine z_icmp_ge 93 dX2_passWithin_21 rfl (fun hc1 => ?_) (fun hc1 => ?_)
    · replace h := oT hc1 h
      refine z_iload_n dX2_passWithin_93 2 rfl ?_
      cases h
      exact z_iret dX2_passWithin_94 rfl
    · replace h := oF hc1 h
      refine z_aload_n dX2_passWithin_24 0 rfl ?_
      refine y_getR (M := mX2_passWithin) (r := (x0 + 2)) dX2_passWithin_25 hq0 flRX2_19 fr_1_5.1 (fr_1_5.2 _) ?_
      refine z_iload_n dX2_passWithin_28 3 rfl ?_
      obtain ⟨hi2, h⟩ := oif h
      refine y_iald (M := mX2_passWithin) (jj := x3.toNatClampNeg) dX2_passWithin_29 (zko_1_5 hq0) hi2 rfl ?_
      refine z_if_eq 87 dX2_passWithin_30 rfl (fun hc3 => ?_) (fun hc3 => ?_)
      · replace h := oT hc3 h
        exact t_Pt_passWithin_87 hd0 ih x0 x1 x2 x3 ν _ hq0 h
      · replace h := oF hc3 h
        refine z_aload_n dX2_passWithin_33 0 rfl ?_
        refine y_getR (M := mX2_passWithin) (r := (x0 + 1)) dX2_passWithin_34 hq0 flRX2_15 fr_1_4.1 (fr_1_4.2 _) ?_
        refine z_iload_n dX2_passWithin_37 3 rfl ?_
        refine z_iconst (M := mX2_passWithin) (v := 0) dX2_passWithin_38 rfl ?_
        refine z_aload_n dX2_passWithin_39 0 rfl ?_
        refine y_getR (M := mX2_passWithin) (r := (x0 + 1)) dX2_passWithin_40 hq0 flRX2_15 fr_1_4.1 (fr_1_4.2 _) ?_
        refine z_iload_n dX2_passWithin_43 3 rfl ?_
        obtain ⟨hi4, h⟩ := oif h
        refine y_iald (M := mX2_passWithin) (jj := x3.toNatClampNeg) dX2_passWithin_44 (zko_1_4 hq0) hi4 rfl ?_
        refine z_iload_n dX2_passWithin_45 1 rfl ?_
        refine z_aload_n dX2_passWithin_46 0 rfl ?_
        refine y_getR (M := mX2_passWithin) (r := (x0 + 2)) dX2_passWithin_47 hq0 flRX2_19 fr_1_5.1 (fr_1_5.2 _) ?_
        refine z_iload_n dX2_passWithin_50 3 rfl ?_
        obtain ⟨hi5, h⟩ := oif h
        refine y_iald (M := mX2_passWithin) (jj := x3.toNatClampNeg) dX2_passWithin_51 (zko_1_5 hq0) hi5 rfl ?_
        obtain ⟨v6, he6, h⟩ := obind h
        refine y_Si (M := mX2_passWithin) (Y := mJ6_bitCount_0f7a4) (d2 := d - 1) (As := [.int (gi ν (x0 + 2) x3.toNatClampNeg)]) (st := [.int x1, .int (gi ν (x0 + 1) x3.toNatClampNeg), .int (0 : Int32), .int x3, .ref (x0 + 1)]) dX2_passWithin_52 mlRX2_55 cv_J6_bitCount_0f7a4 (ct_In_bitCount (dle (Nat.le_of_ble_eq_true rfl) hd0) he6) (dps (Nat.le_of_ble_eq_true rfl) hd0) rfl rfl (Nat.le_of_ble_eq_true rfl) ?_
        refine z_imul dX2_passWithin_55 ?_
        refine z_isub dX2_passWithin_56 ?_
        refine y_mmax dX2_passWithin_57 mlRX2_78 mw_mmax (Nat.le_trans (Nat.le_of_ble_eq_true rfl) hd0) (Nat.le_of_ble_eq_true rfl) ?_
        obtain ⟨hi7, h⟩ := oif h
        refine y_iast (M := mX2_passWithin) (jj := x3.toNatClampNeg) dX2_passWithin_60 (zko_1_4 hq0) hi7 rfl ?_
        refine z_aload_n dX2_passWithin_61 0 rfl ?_
        refine y_getR (M := mX2_passWithin) (r := (x0 + 1)) dX2_passWithin_62 hq0 flRX2_15 fr_1_4.1 (fr_1_4.2 _) ?_
        refine z_iload_n dX2_passWithin_65 3 rfl ?_
        obtain ⟨hi8, h⟩ := oif h
        refine y_iald (M := mX2_passWithin) (jj := x3.toNatClampNeg) dX2_passWithin_66 (zko_1_4 hq0) hi8 rfl ?_
        refine z_if_ne 87 dX2_passWithin_67 rfl (fun hc9 => ?_) (fun hc9 => ?_)
        · replace h := oT hc9 h
          exact t_Pt_passWithin_87 hd0 ih x0 x1 x2 x3 (si ν (x0 + 1) x3.toNatClampNeg (imax (0 : Int32) ((gi ν (x0 + 1) x3.toNatClampNeg) - (x1 * v6)))) _ hq0 h
        · replace h := oFn hc9 h
          refine z_aload_n dX2_passWithin_70 0 rfl ?_
          refine y_getR (M := mX2_passWithin) (r := (x0 + 2)) dX2_passWithin_71 hq0 flRX2_19 fr_1_5.1 (fr_1_5.2 _) ?_
          refine z_iload_n dX2_passWithin_74 3 rfl ?_
          refine z_iconst (M := mX2_passWithin) (v := 0) dX2_passWithin_75 rfl ?_
          obtain ⟨hi10, h⟩ := oif h
          refine y_iast (M := mX2_passWithin) (jj := x3.toNatClampNeg) dX2_passWithin_76 (zko_1_5 hq0) hi10 rfl ?_
          refine z_aload_n dX2_passWithin_77 0 rfl ?_
          refine z_iload_n dX2_passWithin_78 3 rfl ?_
          refine z_iconst (M := mX2_passWithin) (v := 3) dX2_passWithin_79 rfl ?_
          refine z_iconst (M := mX2_passWithin) (v := 0) dX2_passWithin_80 rfl ?_
          obtain ⟨v11, he11, h⟩ := obind h
          refine y_Vv (M := mX2_passWithin) (Y := mX2_writeDown) (d2 := d - 1) (As := [.int x3, .int (3 : Int32), .int (0 : Int32)]) (st := []) dX2_passWithin_81 mlRX2_51 cv_X2_writeDown hq0 (ct_Pt_writeDown (dle (Nat.le_of_ble_eq_true rfl) hd0) hq0 he11) (dps (Nat.le_of_ble_eq_true rfl) hd0) rfl rfl (Nat.le_of_ble_eq_true rfl) ?_
          refine z_iinc (M := mX2_passWithin) (v := (x2 + (1 : Int32))) (lv2 := [(2, .int (x2 + (1 : Int32))), (0, .ref x0), (1, .int x1), (3, .int x3)]) dX2_passWithin_84 2 rfl rfl (Nat.le_of_ble_eq_true rfl) rfl ?_
          refine z_lv (lv2 := [(0, .ref x0), (1, .int x1), (2, .int (x2 + (1 : Int32))), (3, .int x3)]) [1, 2, 0, 3] rfl ?_
          exact t_Pt_passWithin_87 hd0 ih x0 x1 (x2 + (1 : Int32)) x3 v11 _ hq0 h
def Pt_passWithin (x0 : Nat) (x1 : Int32) (ν : Nm) : Option (Int32 × Nm) :=
  Pt_passWithin_19 FU x0 x1 (0 : Int32) (0 : Int32) (si (si ν x0 1 ((gi ν x0 1) + x1)) x0 3 (0 : Int32))
set_option maxRecDepth 100000 in
set_option maxHeartbeats 4000000 in
theorem t_Pt_passWithin {g : GG} {d : Nat} (hd0 : 2 ≤ d) : ∀ (x0 : Nat) (x1 : Int32) (ν : Nm) (r : (Int32 × Nm)), zk 333 x0 (1, 0) → Pt_passWithin x0 x1 ν = some r → Z g d (0, 0) mX2_passWithin 333 0 0 0 [(0, .ref x0), (1, .int x1)] [] (zem ν) (zF g (some (.int r.1), zem r.2)) := by
  intro x0 x1 ν r hq0 h
  unfold Pt_passWithin at h
  refine z_iconst (M := mX2_passWithin) (v := 0) dX2_passWithin_0 rfl ?_
  refine z_istore_n (M := mX2_passWithin) (lv2 := [(2, .int (0 : Int32)), (0, .ref x0), (1, .int x1)]) dX2_passWithin_1 (Nat.le_of_ble_eq_true rfl) rfl ?_
  refine z_aload_n dX2_passWithin_2 1 rfl ?_
  refine z_dup dX2_passWithin_3 rfl ?_
  refine y_getI dX2_passWithin_4 hq0 flRX2_28 ?_
  refine z_iload_n dX2_passWithin_7 2 rfl ?_
  refine z_iadd dX2_passWithin_8 ?_
  refine y_putI dX2_passWithin_9 hq0 flRX2_28 ⟨rfl, rfl⟩ ?_
  refine z_aload_n dX2_passWithin_12 1 rfl ?_
  refine z_iconst (M := mX2_passWithin) (v := 0) dX2_passWithin_13 rfl ?_
  refine y_putI dX2_passWithin_14 hq0 flRX2_31 ⟨rfl, rfl⟩ ?_
  refine z_iconst (M := mX2_passWithin) (v := 0) dX2_passWithin_17 rfl ?_
  refine z_istore_n (M := mX2_passWithin) (lv2 := [(3, .int (0 : Int32)), (2, .int (0 : Int32)), (0, .ref x0), (1, .int x1)]) dX2_passWithin_18 (Nat.le_of_ble_eq_true rfl) rfl ?_
  refine z_lv (lv2 := [(0, .ref x0), (1, .int x1), (2, .int (0 : Int32)), (3, .int (0 : Int32))]) [2, 3, 1, 0] rfl ?_
  exact t_Pt_passWithin_19 hd0 FU x0 x1 (0 : Int32) (0 : Int32) (si (si ν x0 1 ((gi ν x0 1) + x1)) x0 3 (0 : Int32)) _ hq0 h
theorem ct_Pt_passWithin {g : GG} {d : Nat} {x0 : Nat} {x1 : Int32} {ν : Nm} {r : (Int32 × Nm)} (hd0 : 2 ≤ d) (hq0 : zk 333 x0 (1, 0)) (h : Pt_passWithin x0 x1 ν = some r) : Ct g d mX2_passWithin [.ref x0, .int x1] (zem ν) (some (.int r.1), zem r.2) := y_entry in_X2_passWithin (Nat.le_of_ble_eq_true rfl) rfl (t_Pt_passWithin hd0 x0 x1 ν r hq0 h)
-- FuseMinutes$Pit.pass(I)I
theorem dX2_pass_0 : decode cX2_pass 0 = .ok (.iconst 0, 1) := by decide +kernel
theorem dX2_pass_1 : decode cX2_pass 1 = .ok (.istore_n 2, 1) := by decide +kernel
theorem dX2_pass_2 : decode cX2_pass 2 = .ok (.iload_n 1, 1) := by decide +kernel
theorem dX2_pass_3 : decode cX2_pass 3 = .ok (.istore_n 3, 1) := by decide +kernel
theorem dX2_pass_4 : decode cX2_pass 4 = .ok (.iconst 0, 1) := by decide +kernel
theorem dX2_pass_5 : decode cX2_pass 5 = .ok (.istore 4, 2) := by decide +kernel
theorem dX2_pass_7 : decode cX2_pass 7 = .ok (.iload 4, 2) := by decide +kernel
theorem dX2_pass_9 : decode cX2_pass 9 = .ok (.iconst 4, 1) := by decide +kernel
theorem dX2_pass_10 : decode cX2_pass 10 = .ok (.if_icmp .gt 51, 3) := by decide +kernel
theorem dX2_pass_13 : decode cX2_pass 13 = .ok (.iload_n 3, 1) := by decide +kernel
theorem dX2_pass_14 : decode cX2_pass 14 = .ok (.ifCond .le 47, 3) := by decide +kernel
theorem dX2_pass_17 : decode cX2_pass 17 = .ok (.aload_n 0, 1) := by decide +kernel
theorem dX2_pass_18 : decode cX2_pass 18 = .ok (.invokevirtual 64, 3) := by decide +kernel
theorem dX2_pass_21 : decode cX2_pass 21 = .ok (.istore 5, 2) := by decide +kernel
theorem dX2_pass_23 : decode cX2_pass 23 = .ok (.iload 5, 2) := by decide +kernel
theorem dX2_pass_25 : decode cX2_pass 25 = .ok (.iconst (-1), 1) := by decide +kernel
theorem dX2_pass_26 : decode cX2_pass 26 = .ok (.if_icmp .ne 7, 3) := by decide +kernel
theorem dX2_pass_29 : decode cX2_pass 29 = .ok (.iload_n 3, 1) := by decide +kernel
theorem dX2_pass_30 : decode cX2_pass 30 = .ok (.goto 9, 3) := by decide +kernel
theorem dX2_pass_33 : decode cX2_pass 33 = .ok (.iload_n 3, 1) := by decide +kernel
theorem dX2_pass_34 : decode cX2_pass 34 = .ok (.iload 5, 2) := by decide +kernel
theorem dX2_pass_36 : decode cX2_pass 36 = .ok (.invokestatic 69, 3) := by decide +kernel
theorem dX2_pass_39 : decode cX2_pass 39 = .ok (.istore 6, 2) := by decide +kernel
theorem dX2_pass_41 : decode cX2_pass 41 = .ok (.iload_n 2, 1) := by decide +kernel
theorem dX2_pass_42 : decode cX2_pass 42 = .ok (.aload_n 0, 1) := by decide +kernel
theorem dX2_pass_43 : decode cX2_pass 43 = .ok (.iload 6, 2) := by decide +kernel
theorem dX2_pass_45 : decode cX2_pass 45 = .ok (.invokevirtual 75, 3) := by decide +kernel
theorem dX2_pass_48 : decode cX2_pass 48 = .ok (.iadd, 1) := by decide +kernel
theorem dX2_pass_49 : decode cX2_pass 49 = .ok (.istore_n 2, 1) := by decide +kernel
theorem dX2_pass_50 : decode cX2_pass 50 = .ok (.iload_n 3, 1) := by decide +kernel
theorem dX2_pass_51 : decode cX2_pass 51 = .ok (.iload 6, 2) := by decide +kernel
theorem dX2_pass_53 : decode cX2_pass 53 = .ok (.isub, 1) := by decide +kernel
theorem dX2_pass_54 : decode cX2_pass 54 = .ok (.istore_n 3, 1) := by decide +kernel
theorem dX2_pass_55 : decode cX2_pass 55 = .ok (.iinc 4 1, 3) := by decide +kernel
theorem dX2_pass_58 : decode cX2_pass 58 = .ok (.goto (-51), 3) := by decide +kernel
theorem dX2_pass_61 : decode cX2_pass 61 = .ok (.iload_n 2, 1) := by decide +kernel
theorem dX2_pass_62 : decode cX2_pass 62 = .ok (.ireturn, 1) := by decide +kernel
def Pt_pass_39 (k7 : Nat → Int32 → Int32 → Int32 → Nm → Option (Int32 × Nm)) (x0 : Nat) (x2 : Int32) (x3 : Int32) (x4 : Int32) (s0 : Int32) (ν : Nm) : Option (Int32 × Nm) :=
  (Pt_passWithin x0 s0 ν).bind fun v1 =>
  k7 x0 (x2 + v1.1) (x3 - s0) (x4 + (1 : Int32)) v1.2
set_option maxRecDepth 100000 in
set_option maxHeartbeats 4000000 in
theorem t_Pt_pass_39 {g : GG} {d : Nat} (hd0 : 4 ≤ d) {k7 : Nat → Int32 → Int32 → Int32 → Nm → Option (Int32 × Nm)} (hk7 : ∀ (x0 : Nat) (x2 : Int32) (x3 : Int32) (x4 : Int32) (ν : Nm) (r : (Int32 × Nm)), zk 333 x0 (1, 0) → k7 x0 x2 x3 x4 ν = some r → Z g d (0, 0) mX2_pass 333 0 0 7 [(0, .ref x0), (2, .int x2), (3, .int x3), (4, .int x4)] [] (zem ν) (zF g (some (.int r.1), zem r.2))) : ∀ (x0 : Nat) (x2 : Int32) (x3 : Int32) (x4 : Int32) (s0 : Int32) (ν : Nm) (r : (Int32 × Nm)), zk 333 x0 (1, 0) → Pt_pass_39 k7 x0 x2 x3 x4 s0 ν = some r → Z g d (0, 0) mX2_pass 333 0 0 39 [(0, .ref x0), (2, .int x2), (3, .int x3), (4, .int x4)] [.int s0] (zem ν) (zF g (some (.int r.1), zem r.2)) := by
  intro x0 x2 x3 x4 s0 ν r hq0 h
  unfold Pt_pass_39 at h
  refine z_istore (M := mX2_pass) (lv2 := [(6, .int s0), (0, .ref x0), (2, .int x2), (3, .int x3), (4, .int x4)]) dX2_pass_39 (Nat.le_of_ble_eq_true rfl) rfl ?_
  refine z_iload_n dX2_pass_41 2 rfl ?_
  refine z_aload_n dX2_pass_42 1 rfl ?_
  refine z_iload dX2_pass_43 0 rfl ?_
  obtain ⟨v1, he1, h⟩ := obind h
  refine y_Vi (M := mX2_pass) (Y := mX2_passWithin) (d2 := d - 1) (As := [.int s0]) (st := [.int x2]) dX2_pass_45 mlRX2_75 cv_X2_passWithin hq0 (ct_Pt_passWithin (dle (Nat.le_of_ble_eq_true rfl) hd0) hq0 he1) (dps (Nat.le_of_ble_eq_true rfl) hd0) rfl rfl (Nat.le_of_ble_eq_true rfl) ?_
  refine z_iadd dX2_pass_48 ?_
  refine z_istore_n (M := mX2_pass) (lv2 := [(2, .int (x2 + v1.1)), (6, .int s0), (0, .ref x0), (3, .int x3), (4, .int x4)]) dX2_pass_49 (Nat.le_of_ble_eq_true rfl) rfl ?_
  refine z_iload_n dX2_pass_50 3 rfl ?_
  refine z_iload dX2_pass_51 1 rfl ?_
  refine z_isub dX2_pass_53 ?_
  refine z_istore_n (M := mX2_pass) (lv2 := [(3, .int (x3 - s0)), (2, .int (x2 + v1.1)), (6, .int s0), (0, .ref x0), (4, .int x4)]) dX2_pass_54 (Nat.le_of_ble_eq_true rfl) rfl ?_
  refine z_iinc (M := mX2_pass) (v := (x4 + (1 : Int32))) (lv2 := [(4, .int (x4 + (1 : Int32))), (3, .int (x3 - s0)), (2, .int (x2 + v1.1)), (6, .int s0), (0, .ref x0)]) dX2_pass_55 4 rfl rfl (Nat.le_of_ble_eq_true rfl) rfl ?_
  refine z_goto 7 dX2_pass_58 rfl ?_
  refine z_lv (lv2 := [(0, .ref x0), (2, .int (x2 + v1.1)), (3, .int (x3 - s0)), (4, .int (x4 + (1 : Int32)))]) [4, 2, 1, 0] rfl ?_
  exact hk7 x0 (x2 + v1.1) (x3 - s0) (x4 + (1 : Int32)) v1.2 _ hq0 h
def Pt_pass_7 : Nat → Nat → Int32 → Int32 → Int32 → Nm → Option (Int32 × Nm)
  | 0, _, _, _, _, _ => none
  | f + 1, x0, x2, x3, x4, ν =>
    (if (4 : Int32) < x4 then
      some (x2, ν)
    else
      (if x3 ≤ 0 then
        some (x2, ν)
      else
        (Pt_sparksToNextOut ν x0).bind fun v3 =>
        (if ¬ v3 = (-1 : Int32) then
          Pt_pass_39 (Pt_pass_7 f) x0 x2 x3 x4 (imin x3 v3) ν
        else
          Pt_pass_39 (Pt_pass_7 f) x0 x2 x3 x4 x3 ν)))
set_option maxRecDepth 100000 in
set_option maxHeartbeats 4000000 in
theorem t_Pt_pass_7 {g : GG} {d : Nat} (hd0 : 4 ≤ d) : ∀ (f : Nat), ∀ (x0 : Nat) (x2 : Int32) (x3 : Int32) (x4 : Int32) (ν : Nm) (r : (Int32 × Nm)), zk 333 x0 (1, 0) → Pt_pass_7 f x0 x2 x3 x4 ν = some r → Z g d (0, 0) mX2_pass 333 0 0 7 [(0, .ref x0), (2, .int x2), (3, .int x3), (4, .int x4)] [] (zem ν) (zF g (some (.int r.1), zem r.2)) := by
  intro f
  induction f with
  | zero =>
    intro x0 x2 x3 x4 ν r hq0 h
    cases h
  | succ f ih =>
    intro x0 x2 x3 x4 ν r hq0 h
    rw [Pt_pass_7] at h
    refine z_iload dX2_pass_7 3 rfl ?_
    refine z_iconst (M := mX2_pass) (v := 4) dX2_pass_9 rfl ?_
    refine z_icmp_gt 61 dX2_pass_10 rfl (fun hc1 => ?_) (fun hc1 => ?_)
    · replace h := oT hc1 h
      refine z_iload_n dX2_pass_61 1 rfl ?_
      cases h
      exact z_iret dX2_pass_62 rfl
    · replace h := oF hc1 h
      refine z_iload_n dX2_pass_13 2 rfl ?_
      refine z_if_le 61 dX2_pass_14 rfl (fun hc2 => ?_) (fun hc2 => ?_)
      · replace h := oT hc2 h
        refine z_iload_n dX2_pass_61 1 rfl ?_
        cases h
        exact z_iret dX2_pass_62 rfl
      · replace h := oF hc2 h
        refine z_aload_n dX2_pass_17 0 rfl ?_
        obtain ⟨v3, he3, h⟩ := obind h
        refine y_Vi (M := mX2_pass) (Y := mX2_sparksToNextOut) (d2 := d - 1) (As := []) (st := []) dX2_pass_18 mlRX2_64 cv_X2_sparksToNextOut hq0 (ct_Pt_sparksToNextOut (dle (Nat.le_of_ble_eq_true rfl) hd0) hq0 he3) (dps (Nat.le_of_ble_eq_true rfl) hd0) rfl rfl (Nat.le_of_ble_eq_true rfl) ?_
        refine z_istore (M := mX2_pass) (lv2 := [(5, .int v3), (0, .ref x0), (2, .int x2), (3, .int x3), (4, .int x4)]) dX2_pass_21 (Nat.le_of_ble_eq_true rfl) rfl ?_
        refine z_iload dX2_pass_23 0 rfl ?_
        refine z_iconst (M := mX2_pass) (v := -1) dX2_pass_25 rfl ?_
        refine z_icmp_ne 33 dX2_pass_26 rfl (fun hc4 => ?_) (fun hc4 => ?_)
        · replace h := oT hc4 h
          refine z_iload_n dX2_pass_33 3 rfl ?_
          refine z_iload dX2_pass_34 0 rfl ?_
          refine y_mmin dX2_pass_36 mlRX2_69 mw_mmin (Nat.le_trans (Nat.le_of_ble_eq_true rfl) hd0) (Nat.le_of_ble_eq_true rfl) ?_
          refine z_lv (lv2 := [(0, .ref x0), (2, .int x2), (3, .int x3), (4, .int x4)]) [1, 2, 3, 4] rfl ?_
          exact t_Pt_pass_39 hd0 ih x0 x2 x3 x4 (imin x3 v3) ν _ hq0 h
        · replace h := oFn hc4 h
          refine z_iload_n dX2_pass_29 3 rfl ?_
          refine z_goto 39 dX2_pass_30 rfl ?_
          refine z_lv (lv2 := [(0, .ref x0), (2, .int x2), (3, .int x3), (4, .int x4)]) [1, 2, 3, 4] rfl ?_
          exact t_Pt_pass_39 hd0 ih x0 x2 x3 x4 x3 ν _ hq0 h
def Pt_pass (x0 : Nat) (x1 : Int32) (ν : Nm) : Option (Int32 × Nm) :=
  Pt_pass_7 FU x0 (0 : Int32) x1 (0 : Int32) ν
set_option maxRecDepth 100000 in
set_option maxHeartbeats 4000000 in
theorem t_Pt_pass {g : GG} {d : Nat} (hd0 : 4 ≤ d) : ∀ (x0 : Nat) (x1 : Int32) (ν : Nm) (r : (Int32 × Nm)), zk 333 x0 (1, 0) → Pt_pass x0 x1 ν = some r → Z g d (0, 0) mX2_pass 333 0 0 0 [(0, .ref x0), (1, .int x1)] [] (zem ν) (zF g (some (.int r.1), zem r.2)) := by
  intro x0 x1 ν r hq0 h
  unfold Pt_pass at h
  refine z_iconst (M := mX2_pass) (v := 0) dX2_pass_0 rfl ?_
  refine z_istore_n (M := mX2_pass) (lv2 := [(2, .int (0 : Int32)), (0, .ref x0), (1, .int x1)]) dX2_pass_1 (Nat.le_of_ble_eq_true rfl) rfl ?_
  refine z_iload_n dX2_pass_2 2 rfl ?_
  refine z_istore_n (M := mX2_pass) (lv2 := [(3, .int x1), (2, .int (0 : Int32)), (0, .ref x0), (1, .int x1)]) dX2_pass_3 (Nat.le_of_ble_eq_true rfl) rfl ?_
  refine z_iconst (M := mX2_pass) (v := 0) dX2_pass_4 rfl ?_
  refine z_istore (M := mX2_pass) (lv2 := [(4, .int (0 : Int32)), (3, .int x1), (2, .int (0 : Int32)), (0, .ref x0), (1, .int x1)]) dX2_pass_5 (Nat.le_of_ble_eq_true rfl) rfl ?_
  refine z_lv (lv2 := [(0, .ref x0), (2, .int (0 : Int32)), (3, .int x1), (4, .int (0 : Int32))]) [3, 2, 1, 0] rfl ?_
  exact t_Pt_pass_7 hd0 FU x0 (0 : Int32) x1 (0 : Int32) ν _ hq0 h
theorem ct_Pt_pass {g : GG} {d : Nat} {x0 : Nat} {x1 : Int32} {ν : Nm} {r : (Int32 × Nm)} (hd0 : 4 ≤ d) (hq0 : zk 333 x0 (1, 0)) (h : Pt_pass x0 x1 ν = some r) : Ct g d mX2_pass [.ref x0, .int x1] (zem ν) (some (.int r.1), zem r.2) := y_entry in_X2_pass (Nat.le_of_ble_eq_true rfl) rfl (t_Pt_pass hd0 x0 x1 ν r hq0 h)
-- FuseMinutes$Steps.push(LFuseMinutes$Pit;)V
theorem dX5_push_0 : decode cX5_push 0 = .ok (.aload_n 0, 1) := by decide +kernel
theorem dX5_push_1 : decode cX5_push 1 = .ok (.getfield 18, 3) := by decide +kernel
theorem dX5_push_4 : decode cX5_push 4 = .ok (.bipush 30, 2) := by decide +kernel
theorem dX5_push_6 : decode cX5_push 6 = .ok (.if_icmp .ge 16, 3) := by decide +kernel
theorem dX5_push_9 : decode cX5_push 9 = .ok (.aload_n 0, 1) := by decide +kernel
theorem dX5_push_10 : decode cX5_push 10 = .ok (.dup, 1) := by decide +kernel
theorem dX5_push_11 : decode cX5_push 11 = .ok (.getfield 18, 3) := by decide +kernel
theorem dX5_push_14 : decode cX5_push 14 = .ok (.iconst 1, 1) := by decide +kernel
theorem dX5_push_15 : decode cX5_push 15 = .ok (.iadd, 1) := by decide +kernel
theorem dX5_push_16 : decode cX5_push 16 = .ok (.putfield 18, 3) := by decide +kernel
theorem dX5_push_19 : decode cX5_push 19 = .ok (.goto 16, 3) := by decide +kernel
theorem dX5_push_22 : decode cX5_push 22 = .ok (.aload_n 0, 1) := by decide +kernel
theorem dX5_push_23 : decode cX5_push 23 = .ok (.aload_n 0, 1) := by decide +kernel
theorem dX5_push_24 : decode cX5_push 24 = .ok (.getfield 22, 3) := by decide +kernel
theorem dX5_push_27 : decode cX5_push 27 = .ok (.iconst 1, 1) := by decide +kernel
theorem dX5_push_28 : decode cX5_push 28 = .ok (.iadd, 1) := by decide +kernel
theorem dX5_push_29 : decode cX5_push 29 = .ok (.bipush 30, 2) := by decide +kernel
theorem dX5_push_31 : decode cX5_push 31 = .ok (.irem, 1) := by decide +kernel
theorem dX5_push_32 : decode cX5_push 32 = .ok (.putfield 22, 3) := by decide +kernel
theorem dX5_push_35 : decode cX5_push 35 = .ok (.aload_n 0, 1) := by decide +kernel
theorem dX5_push_36 : decode cX5_push 36 = .ok (.getfield 11, 3) := by decide +kernel
theorem dX5_push_39 : decode cX5_push 39 = .ok (.aload_n 0, 1) := by decide +kernel
theorem dX5_push_40 : decode cX5_push 40 = .ok (.getfield 22, 3) := by decide +kernel
theorem dX5_push_43 : decode cX5_push 43 = .ok (.aload_n 0, 1) := by decide +kernel
theorem dX5_push_44 : decode cX5_push 44 = .ok (.getfield 18, 3) := by decide +kernel
theorem dX5_push_47 : decode cX5_push 47 = .ok (.iadd, 1) := by decide +kernel
theorem dX5_push_48 : decode cX5_push 48 = .ok (.iconst 1, 1) := by decide +kernel
theorem dX5_push_49 : decode cX5_push 49 = .ok (.isub, 1) := by decide +kernel
theorem dX5_push_50 : decode cX5_push 50 = .ok (.bipush 30, 2) := by decide +kernel
theorem dX5_push_52 : decode cX5_push 52 = .ok (.irem, 1) := by decide +kernel
theorem dX5_push_53 : decode cX5_push 53 = .ok (.aaload, 1) := by decide +kernel
theorem dX5_push_54 : decode cX5_push 54 = .ok (.aload_n 1, 1) := by decide +kernel
theorem dX5_push_55 : decode cX5_push 55 = .ok (.invokevirtual 25, 3) := by decide +kernel
theorem dX5_push_58 : decode cX5_push 58 = .ok (.return_, 1) := by decide +kernel
def St_push_35 (x0 : Nat) (x1 : Nat) (ν : Nm) : Option Nm :=
  if inb ((((gi ν x0 1) + (gi ν x0 2)) - (1 : Int32)) - (((gi ν x0 1) + (gi ν x0 2)) - (1 : Int32)) / (30 : Int32) * (30 : Int32)) 30 then
  (Pt_copy ((x0 + 1) + 1 + 4 * ((((gi ν x0 1) + (gi ν x0 2)) - (1 : Int32)) - (((gi ν x0 1) + (gi ν x0 2)) - (1 : Int32)) / (30 : Int32) * (30 : Int32)).toNatClampNeg) x1 ν).bind fun v2 =>
  some v2
  else none
set_option maxRecDepth 100000 in
set_option maxHeartbeats 4000000 in
theorem t_St_push_35 {g : GG} {d : Nat} (hd0 : 2 ≤ d) : ∀ (x0 : Nat) (x1 : Nat) (ν : Nm) (r : Nm), zk 333 x0 (4, 0) → zk 333 x1 (1, 0) → St_push_35 x0 x1 ν = some r → Z g d (0, 0) mX5_push 333 0 0 35 [(0, .ref x0), (1, .ref x1)] [] (zem ν) (zF g (none, zem r)) := by
  intro x0 x1 ν r hq0 hq1 h
  unfold St_push_35 at h
  refine z_aload_n dX5_push_35 0 rfl ?_
  refine y_getR (M := mX5_push) (r := (x0 + 1)) dX5_push_36 hq0 flRX5_11 fr_4_0.1 (fr_4_0.2 _) ?_
  refine z_aload_n dX5_push_39 0 rfl ?_
  refine y_getI dX5_push_40 hq0 flRX5_22 ?_
  refine z_aload_n dX5_push_43 0 rfl ?_
  refine y_getI dX5_push_44 hq0 flRX5_18 ?_
  refine z_iadd dX5_push_47 ?_
  refine z_iconst (M := mX5_push) (v := 1) dX5_push_48 rfl ?_
  refine z_isub dX5_push_49 ?_
  refine z_bipush (M := mX5_push) (v := 30) dX5_push_50 rfl ?_
  refine z_irem dX5_push_52 (by decide) ?_
  obtain ⟨hi1, h⟩ := oif h
  refine y_aaldP dX5_push_53 (zko_4_0 hq0) hi1 ?_
  refine z_aload_n dX5_push_54 1 rfl ?_
  obtain ⟨v2, he2, h⟩ := obind h
  refine y_Vv (M := mX5_push) (Y := mX2_copy) (d2 := d - 1) (As := [.ref x1]) (st := []) dX5_push_55 mlRX5_25 cv_X2_copy (zkoP (zko_4_0 hq0) hi1) (ct_Pt_copy (dle (Nat.le_of_ble_eq_true rfl) hd0) (zkoP (zko_4_0 hq0) hi1) hq1 he2) (dps (Nat.le_of_ble_eq_true rfl) hd0) rfl rfl (Nat.le_of_ble_eq_true rfl) ?_
  cases h
  exact z_vret dX5_push_58 rfl
def St_push (x0 : Nat) (x1 : Nat) (ν : Nm) : Option Nm :=
  (if (30 : Int32) ≤ (gi ν x0 2) then
    St_push_35 x0 x1 (si ν x0 1 (((gi ν x0 1) + (1 : Int32)) - ((gi ν x0 1) + (1 : Int32)) / (30 : Int32) * (30 : Int32)))
  else
    St_push_35 x0 x1 (si ν x0 2 ((gi ν x0 2) + (1 : Int32))))
set_option maxRecDepth 100000 in
set_option maxHeartbeats 4000000 in
theorem t_St_push {g : GG} {d : Nat} (hd0 : 2 ≤ d) : ∀ (x0 : Nat) (x1 : Nat) (ν : Nm) (r : Nm), zk 333 x0 (4, 0) → zk 333 x1 (1, 0) → St_push x0 x1 ν = some r → Z g d (0, 0) mX5_push 333 0 0 0 [(0, .ref x0), (1, .ref x1)] [] (zem ν) (zF g (none, zem r)) := by
  intro x0 x1 ν r hq0 hq1 h
  unfold St_push at h
  refine z_aload_n dX5_push_0 0 rfl ?_
  refine y_getI dX5_push_1 hq0 flRX5_18 ?_
  refine z_bipush (M := mX5_push) (v := 30) dX5_push_4 rfl ?_
  refine z_icmp_ge 22 dX5_push_6 rfl (fun hc1 => ?_) (fun hc1 => ?_)
  · replace h := oT hc1 h
    refine z_aload_n dX5_push_22 0 rfl ?_
    refine z_aload_n dX5_push_23 0 rfl ?_
    refine y_getI dX5_push_24 hq0 flRX5_22 ?_
    refine z_iconst (M := mX5_push) (v := 1) dX5_push_27 rfl ?_
    refine z_iadd dX5_push_28 ?_
    refine z_bipush (M := mX5_push) (v := 30) dX5_push_29 rfl ?_
    refine z_irem dX5_push_31 (by decide) ?_
    refine y_putI dX5_push_32 hq0 flRX5_22 ⟨rfl, rfl⟩ ?_
    exact t_St_push_35 hd0  x0 x1 (si ν x0 1 (((gi ν x0 1) + (1 : Int32)) - ((gi ν x0 1) + (1 : Int32)) / (30 : Int32) * (30 : Int32))) _ hq0 hq1 h
  · replace h := oF hc1 h
    refine z_aload_n dX5_push_9 0 rfl ?_
    refine z_dup dX5_push_10 rfl ?_
    refine y_getI dX5_push_11 hq0 flRX5_18 ?_
    refine z_iconst (M := mX5_push) (v := 1) dX5_push_14 rfl ?_
    refine z_iadd dX5_push_15 ?_
    refine y_putI dX5_push_16 hq0 flRX5_18 ⟨rfl, rfl⟩ ?_
    refine z_goto 35 dX5_push_19 rfl ?_
    exact t_St_push_35 hd0  x0 x1 (si ν x0 2 ((gi ν x0 2) + (1 : Int32))) _ hq0 hq1 h
theorem ct_St_push {g : GG} {d : Nat} {x0 : Nat} {x1 : Nat} {ν : Nm} {r : Nm} (hd0 : 2 ≤ d) (hq0 : zk 333 x0 (4, 0)) (hq1 : zk 333 x1 (1, 0)) (h : St_push x0 x1 ν = some r) : Ct g d mX5_push [.ref x0, .ref x1] (zem ν) (none, zem r) := y_entry in_X5_push (Nat.le_of_ble_eq_true rfl) rfl (t_St_push hd0 x0 x1 ν r hq0 hq1 h)
-- FuseMinutes$Steps.pop(LFuseMinutes$Pit;)Z
theorem dX5_pop_0 : decode cX5_pop 0 = .ok (.aload_n 0, 1) := by decide +kernel
theorem dX5_pop_1 : decode cX5_pop 1 = .ok (.getfield 18, 3) := by decide +kernel
theorem dX5_pop_4 : decode cX5_pop 4 = .ok (.ifCond .ne 5, 3) := by decide +kernel
theorem dX5_pop_7 : decode cX5_pop 7 = .ok (.iconst 0, 1) := by decide +kernel
theorem dX5_pop_8 : decode cX5_pop 8 = .ok (.ireturn, 1) := by decide +kernel
theorem dX5_pop_9 : decode cX5_pop 9 = .ok (.aload_n 0, 1) := by decide +kernel
theorem dX5_pop_10 : decode cX5_pop 10 = .ok (.dup, 1) := by decide +kernel
theorem dX5_pop_11 : decode cX5_pop 11 = .ok (.getfield 18, 3) := by decide +kernel
theorem dX5_pop_14 : decode cX5_pop 14 = .ok (.iconst 1, 1) := by decide +kernel
theorem dX5_pop_15 : decode cX5_pop 15 = .ok (.isub, 1) := by decide +kernel
theorem dX5_pop_16 : decode cX5_pop 16 = .ok (.putfield 18, 3) := by decide +kernel
theorem dX5_pop_19 : decode cX5_pop 19 = .ok (.aload_n 1, 1) := by decide +kernel
theorem dX5_pop_20 : decode cX5_pop 20 = .ok (.aload_n 0, 1) := by decide +kernel
theorem dX5_pop_21 : decode cX5_pop 21 = .ok (.getfield 11, 3) := by decide +kernel
theorem dX5_pop_24 : decode cX5_pop 24 = .ok (.aload_n 0, 1) := by decide +kernel
theorem dX5_pop_25 : decode cX5_pop 25 = .ok (.getfield 22, 3) := by decide +kernel
theorem dX5_pop_28 : decode cX5_pop 28 = .ok (.aload_n 0, 1) := by decide +kernel
theorem dX5_pop_29 : decode cX5_pop 29 = .ok (.getfield 18, 3) := by decide +kernel
theorem dX5_pop_32 : decode cX5_pop 32 = .ok (.iadd, 1) := by decide +kernel
theorem dX5_pop_33 : decode cX5_pop 33 = .ok (.bipush 30, 2) := by decide +kernel
theorem dX5_pop_35 : decode cX5_pop 35 = .ok (.irem, 1) := by decide +kernel
theorem dX5_pop_36 : decode cX5_pop 36 = .ok (.aaload, 1) := by decide +kernel
theorem dX5_pop_37 : decode cX5_pop 37 = .ok (.invokevirtual 25, 3) := by decide +kernel
theorem dX5_pop_40 : decode cX5_pop 40 = .ok (.iconst 1, 1) := by decide +kernel
theorem dX5_pop_41 : decode cX5_pop 41 = .ok (.ireturn, 1) := by decide +kernel
def St_pop (x0 : Nat) (x1 : Nat) (ν : Nm) : Option (Bool × Nm) :=
  (if ¬ (gi ν x0 2) = 0 then
    if inb (((gi (si ν x0 2 ((gi ν x0 2) - (1 : Int32))) x0 1) + (gi (si ν x0 2 ((gi ν x0 2) - (1 : Int32))) x0 2)) - ((gi (si ν x0 2 ((gi ν x0 2) - (1 : Int32))) x0 1) + (gi (si ν x0 2 ((gi ν x0 2) - (1 : Int32))) x0 2)) / (30 : Int32) * (30 : Int32)) 30 then
    (Pt_copy x1 ((x0 + 1) + 1 + 4 * (((gi (si ν x0 2 ((gi ν x0 2) - (1 : Int32))) x0 1) + (gi (si ν x0 2 ((gi ν x0 2) - (1 : Int32))) x0 2)) - ((gi (si ν x0 2 ((gi ν x0 2) - (1 : Int32))) x0 1) + (gi (si ν x0 2 ((gi ν x0 2) - (1 : Int32))) x0 2)) / (30 : Int32) * (30 : Int32)).toNatClampNeg) (si ν x0 2 ((gi ν x0 2) - (1 : Int32)))).bind fun v3 =>
    some (true, v3)
    else none
  else
    some (false, ν))
set_option maxRecDepth 100000 in
set_option maxHeartbeats 4000000 in
theorem t_St_pop {g : GG} {d : Nat} (hd0 : 2 ≤ d) : ∀ (x0 : Nat) (x1 : Nat) (ν : Nm) (r : (Bool × Nm)), zk 333 x0 (4, 0) → zk 333 x1 (1, 0) → St_pop x0 x1 ν = some r → Z g d (0, 0) mX5_pop 333 0 0 0 [(0, .ref x0), (1, .ref x1)] [] (zem ν) (zF g (some (.int (b2i r.1)), zem r.2)) := by
  intro x0 x1 ν r hq0 hq1 h
  unfold St_pop at h
  refine z_aload_n dX5_pop_0 0 rfl ?_
  refine y_getI dX5_pop_1 hq0 flRX5_18 ?_
  refine z_if_ne 9 dX5_pop_4 rfl (fun hc1 => ?_) (fun hc1 => ?_)
  · replace h := oT hc1 h
    refine z_aload_n dX5_pop_9 0 rfl ?_
    refine z_dup dX5_pop_10 rfl ?_
    refine y_getI dX5_pop_11 hq0 flRX5_18 ?_
    refine z_iconst (M := mX5_pop) (v := 1) dX5_pop_14 rfl ?_
    refine z_isub dX5_pop_15 ?_
    refine y_putI dX5_pop_16 hq0 flRX5_18 ⟨rfl, rfl⟩ ?_
    refine z_aload_n dX5_pop_19 1 rfl ?_
    refine z_aload_n dX5_pop_20 0 rfl ?_
    refine y_getR (M := mX5_pop) (r := (x0 + 1)) dX5_pop_21 hq0 flRX5_11 fr_4_0.1 (fr_4_0.2 _) ?_
    refine z_aload_n dX5_pop_24 0 rfl ?_
    refine y_getI dX5_pop_25 hq0 flRX5_22 ?_
    refine z_aload_n dX5_pop_28 0 rfl ?_
    refine y_getI dX5_pop_29 hq0 flRX5_18 ?_
    refine z_iadd dX5_pop_32 ?_
    refine z_bipush (M := mX5_pop) (v := 30) dX5_pop_33 rfl ?_
    refine z_irem dX5_pop_35 (by decide) ?_
    obtain ⟨hi2, h⟩ := oif h
    refine y_aaldP dX5_pop_36 (zko_4_0 hq0) hi2 ?_
    obtain ⟨v3, he3, h⟩ := obind h
    refine y_Vv (M := mX5_pop) (Y := mX2_copy) (d2 := d - 1) (As := [.ref ((x0 + 1) + 1 + 4 * (((gi (si ν x0 2 ((gi ν x0 2) - (1 : Int32))) x0 1) + (gi (si ν x0 2 ((gi ν x0 2) - (1 : Int32))) x0 2)) - ((gi (si ν x0 2 ((gi ν x0 2) - (1 : Int32))) x0 1) + (gi (si ν x0 2 ((gi ν x0 2) - (1 : Int32))) x0 2)) / (30 : Int32) * (30 : Int32)).toNatClampNeg)]) (st := []) dX5_pop_37 mlRX5_25 cv_X2_copy hq1 (ct_Pt_copy (dle (Nat.le_of_ble_eq_true rfl) hd0) hq1 (zkoP (zko_4_0 hq0) hi2) he3) (dps (Nat.le_of_ble_eq_true rfl) hd0) rfl rfl (Nat.le_of_ble_eq_true rfl) ?_
    refine z_iconst (M := mX5_pop) (v := 1) dX5_pop_40 rfl ?_
    cases h
    exact z_zret dX5_pop_41 rfl rfl
  · replace h := oFn hc1 h
    refine z_iconst (M := mX5_pop) (v := 0) dX5_pop_7 rfl ?_
    cases h
    exact z_zret dX5_pop_8 rfl rfl
theorem ct_St_pop {g : GG} {d : Nat} {x0 : Nat} {x1 : Nat} {ν : Nm} {r : (Bool × Nm)} (hd0 : 2 ≤ d) (hq0 : zk 333 x0 (4, 0)) (hq1 : zk 333 x1 (1, 0)) (h : St_pop x0 x1 ν = some r) : Ct g d mX5_pop [.ref x0, .ref x1] (zem ν) (some (.int (b2i r.1)), zem r.2) := y_entry in_X5_pop (Nat.le_of_ble_eq_true rfl) rfl (t_St_pop hd0 x0 x1 ν r hq0 hq1 h)
-- FuseMinutes$Steps.copy(LFuseMinutes$Steps;)V
theorem dX5_copy_0 : decode cX5_copy 0 = .ok (.aload_n 0, 1) := by decide +kernel
theorem dX5_copy_1 : decode cX5_copy 1 = .ok (.aload_n 1, 1) := by decide +kernel
theorem dX5_copy_2 : decode cX5_copy 2 = .ok (.getfield 22, 3) := by decide +kernel
theorem dX5_copy_5 : decode cX5_copy 5 = .ok (.putfield 22, 3) := by decide +kernel
theorem dX5_copy_8 : decode cX5_copy 8 = .ok (.aload_n 0, 1) := by decide +kernel
theorem dX5_copy_9 : decode cX5_copy 9 = .ok (.aload_n 1, 1) := by decide +kernel
theorem dX5_copy_10 : decode cX5_copy 10 = .ok (.getfield 18, 3) := by decide +kernel
theorem dX5_copy_13 : decode cX5_copy 13 = .ok (.putfield 18, 3) := by decide +kernel
theorem dX5_copy_16 : decode cX5_copy 16 = .ok (.iconst 0, 1) := by decide +kernel
theorem dX5_copy_17 : decode cX5_copy 17 = .ok (.istore_n 2, 1) := by decide +kernel
theorem dX5_copy_18 : decode cX5_copy 18 = .ok (.iload_n 2, 1) := by decide +kernel
theorem dX5_copy_19 : decode cX5_copy 19 = .ok (.aload_n 0, 1) := by decide +kernel
theorem dX5_copy_20 : decode cX5_copy 20 = .ok (.getfield 18, 3) := by decide +kernel
theorem dX5_copy_23 : decode cX5_copy 23 = .ok (.if_icmp .ge 40, 3) := by decide +kernel
theorem dX5_copy_26 : decode cX5_copy 26 = .ok (.iload_n 2, 1) := by decide +kernel
theorem dX5_copy_27 : decode cX5_copy 27 = .ok (.bipush 30, 2) := by decide +kernel
theorem dX5_copy_29 : decode cX5_copy 29 = .ok (.if_icmp .ge 34, 3) := by decide +kernel
theorem dX5_copy_32 : decode cX5_copy 32 = .ok (.aload_n 0, 1) := by decide +kernel
theorem dX5_copy_33 : decode cX5_copy 33 = .ok (.getfield 22, 3) := by decide +kernel
theorem dX5_copy_36 : decode cX5_copy 36 = .ok (.iload_n 2, 1) := by decide +kernel
theorem dX5_copy_37 : decode cX5_copy 37 = .ok (.iadd, 1) := by decide +kernel
theorem dX5_copy_38 : decode cX5_copy 38 = .ok (.bipush 30, 2) := by decide +kernel
theorem dX5_copy_40 : decode cX5_copy 40 = .ok (.irem, 1) := by decide +kernel
theorem dX5_copy_41 : decode cX5_copy 41 = .ok (.istore_n 3, 1) := by decide +kernel
theorem dX5_copy_42 : decode cX5_copy 42 = .ok (.aload_n 0, 1) := by decide +kernel
theorem dX5_copy_43 : decode cX5_copy 43 = .ok (.getfield 11, 3) := by decide +kernel
theorem dX5_copy_46 : decode cX5_copy 46 = .ok (.iload_n 3, 1) := by decide +kernel
theorem dX5_copy_47 : decode cX5_copy 47 = .ok (.aaload, 1) := by decide +kernel
theorem dX5_copy_48 : decode cX5_copy 48 = .ok (.aload_n 1, 1) := by decide +kernel
theorem dX5_copy_49 : decode cX5_copy 49 = .ok (.getfield 11, 3) := by decide +kernel
theorem dX5_copy_52 : decode cX5_copy 52 = .ok (.iload_n 3, 1) := by decide +kernel
theorem dX5_copy_53 : decode cX5_copy 53 = .ok (.aaload, 1) := by decide +kernel
theorem dX5_copy_54 : decode cX5_copy 54 = .ok (.invokevirtual 25, 3) := by decide +kernel
theorem dX5_copy_57 : decode cX5_copy 57 = .ok (.iinc 2 1, 3) := by decide +kernel
theorem dX5_copy_60 : decode cX5_copy 60 = .ok (.goto (-42), 3) := by decide +kernel
theorem dX5_copy_63 : decode cX5_copy 63 = .ok (.return_, 1) := by decide +kernel
def St_copy_18 : Nat → Nat → Nat → Int32 → Nm → Option Nm
  | 0, _, _, _, _ => none
  | f + 1, x0, x1, x2, ν =>
    (if (gi ν x0 2) ≤ x2 then
      some ν
    else
      (if (30 : Int32) ≤ x2 then
        some ν
      else
        if inb (((gi ν x0 1) + x2) - ((gi ν x0 1) + x2) / (30 : Int32) * (30 : Int32)) 30 then
        if inb (((gi ν x0 1) + x2) - ((gi ν x0 1) + x2) / (30 : Int32) * (30 : Int32)) 30 then
        (Pt_copy ((x0 + 1) + 1 + 4 * (((gi ν x0 1) + x2) - ((gi ν x0 1) + x2) / (30 : Int32) * (30 : Int32)).toNatClampNeg) ((x1 + 1) + 1 + 4 * (((gi ν x0 1) + x2) - ((gi ν x0 1) + x2) / (30 : Int32) * (30 : Int32)).toNatClampNeg) ν).bind fun v5 =>
        (St_copy_18 f) x0 x1 (x2 + (1 : Int32)) v5
        else none
        else none))
set_option maxRecDepth 100000 in
set_option maxHeartbeats 4000000 in
theorem t_St_copy_18 {g : GG} {d : Nat} (hd0 : 2 ≤ d) : ∀ (f : Nat), ∀ (x0 : Nat) (x1 : Nat) (x2 : Int32) (ν : Nm) (r : Nm), zk 333 x0 (4, 0) → zk 333 x1 (4, 0) → St_copy_18 f x0 x1 x2 ν = some r → Z g d (0, 0) mX5_copy 333 0 0 18 [(0, .ref x0), (1, .ref x1), (2, .int x2)] [] (zem ν) (zF g (none, zem r)) := by
  intro f
  induction f with
  | zero =>
    intro x0 x1 x2 ν r hq0 hq1 h
    cases h
  | succ f ih =>
    intro x0 x1 x2 ν r hq0 hq1 h
    rw [St_copy_18] at h
    refine z_iload_n dX5_copy_18 2 rfl ?_
    refine z_aload_n dX5_copy_19 0 rfl ?_
    refine y_getI dX5_copy_20 hq0 flRX5_18 ?_
    refine z_icmp_ge 63 dX5_copy_23 rfl (fun hc1 => ?_) (fun hc1 => ?_)
    · replace h := oT hc1 h
      cases h
      exact z_vret dX5_copy_63 rfl
    · replace h := oF hc1 h
      refine z_iload_n dX5_copy_26 2 rfl ?_
      refine z_bipush (M := mX5_copy) (v := 30) dX5_copy_27 rfl ?_
      refine z_icmp_ge 63 dX5_copy_29 rfl (fun hc2 => ?_) (fun hc2 => ?_)
      · replace h := oT hc2 h
        cases h
        exact z_vret dX5_copy_63 rfl
      · replace h := oF hc2 h
        refine z_aload_n dX5_copy_32 0 rfl ?_
        refine y_getI dX5_copy_33 hq0 flRX5_22 ?_
        refine z_iload_n dX5_copy_36 2 rfl ?_
        refine z_iadd dX5_copy_37 ?_
        refine z_bipush (M := mX5_copy) (v := 30) dX5_copy_38 rfl ?_
        refine z_irem dX5_copy_40 (by decide) ?_
        refine z_istore_n (M := mX5_copy) (lv2 := [(3, .int (((gi ν x0 1) + x2) - ((gi ν x0 1) + x2) / (30 : Int32) * (30 : Int32))), (0, .ref x0), (1, .ref x1), (2, .int x2)]) dX5_copy_41 (Nat.le_of_ble_eq_true rfl) rfl ?_
        refine z_aload_n dX5_copy_42 1 rfl ?_
        refine y_getR (M := mX5_copy) (r := (x0 + 1)) dX5_copy_43 hq0 flRX5_11 fr_4_0.1 (fr_4_0.2 _) ?_
        refine z_iload_n dX5_copy_46 0 rfl ?_
        obtain ⟨hi3, h⟩ := oif h
        refine y_aaldP dX5_copy_47 (zko_4_0 hq0) hi3 ?_
        refine z_aload_n dX5_copy_48 2 rfl ?_
        refine y_getR (M := mX5_copy) (r := (x1 + 1)) dX5_copy_49 hq1 flRX5_11 fr_4_0.1 (fr_4_0.2 _) ?_
        refine z_iload_n dX5_copy_52 0 rfl ?_
        obtain ⟨hi4, h⟩ := oif h
        refine y_aaldP dX5_copy_53 (zko_4_0 hq1) hi4 ?_
        obtain ⟨v5, he5, h⟩ := obind h
        refine y_Vv (M := mX5_copy) (Y := mX2_copy) (d2 := d - 1) (As := [.ref ((x1 + 1) + 1 + 4 * (((gi ν x0 1) + x2) - ((gi ν x0 1) + x2) / (30 : Int32) * (30 : Int32)).toNatClampNeg)]) (st := []) dX5_copy_54 mlRX5_25 cv_X2_copy (zkoP (zko_4_0 hq0) hi3) (ct_Pt_copy (dle (Nat.le_of_ble_eq_true rfl) hd0) (zkoP (zko_4_0 hq0) hi3) (zkoP (zko_4_0 hq1) hi4) he5) (dps (Nat.le_of_ble_eq_true rfl) hd0) rfl rfl (Nat.le_of_ble_eq_true rfl) ?_
        refine z_iinc (M := mX5_copy) (v := (x2 + (1 : Int32))) (lv2 := [(2, .int (x2 + (1 : Int32))), (3, .int (((gi ν x0 1) + x2) - ((gi ν x0 1) + x2) / (30 : Int32) * (30 : Int32))), (0, .ref x0), (1, .ref x1)]) dX5_copy_57 3 rfl rfl (Nat.le_of_ble_eq_true rfl) rfl ?_
        refine z_goto 18 dX5_copy_60 rfl ?_
        refine z_lv (lv2 := [(0, .ref x0), (1, .ref x1), (2, .int (x2 + (1 : Int32)))]) [2, 3, 0] rfl ?_
        exact ih x0 x1 (x2 + (1 : Int32)) v5 _ hq0 hq1 h
def St_copy (x0 : Nat) (x1 : Nat) (ν : Nm) : Option Nm :=
  St_copy_18 FU x0 x1 (0 : Int32) (si (si ν x0 1 (gi ν x1 1)) x0 2 (gi (si ν x0 1 (gi ν x1 1)) x1 2))
set_option maxRecDepth 100000 in
set_option maxHeartbeats 4000000 in
theorem t_St_copy {g : GG} {d : Nat} (hd0 : 2 ≤ d) : ∀ (x0 : Nat) (x1 : Nat) (ν : Nm) (r : Nm), zk 333 x0 (4, 0) → zk 333 x1 (4, 0) → St_copy x0 x1 ν = some r → Z g d (0, 0) mX5_copy 333 0 0 0 [(0, .ref x0), (1, .ref x1)] [] (zem ν) (zF g (none, zem r)) := by
  intro x0 x1 ν r hq0 hq1 h
  unfold St_copy at h
  refine z_aload_n dX5_copy_0 0 rfl ?_
  refine z_aload_n dX5_copy_1 1 rfl ?_
  refine y_getI dX5_copy_2 hq1 flRX5_22 ?_
  refine y_putI dX5_copy_5 hq0 flRX5_22 ⟨rfl, rfl⟩ ?_
  refine z_aload_n dX5_copy_8 0 rfl ?_
  refine z_aload_n dX5_copy_9 1 rfl ?_
  refine y_getI dX5_copy_10 hq1 flRX5_18 ?_
  refine y_putI dX5_copy_13 hq0 flRX5_18 ⟨rfl, rfl⟩ ?_
  refine z_iconst (M := mX5_copy) (v := 0) dX5_copy_16 rfl ?_
  refine z_istore_n (M := mX5_copy) (lv2 := [(2, .int (0 : Int32)), (0, .ref x0), (1, .ref x1)]) dX5_copy_17 (Nat.le_of_ble_eq_true rfl) rfl ?_
  refine z_lv (lv2 := [(0, .ref x0), (1, .ref x1), (2, .int (0 : Int32))]) [1, 2, 0] rfl ?_
  exact t_St_copy_18 hd0 FU x0 x1 (0 : Int32) (si (si ν x0 1 (gi ν x1 1)) x0 2 (gi (si ν x0 1 (gi ν x1 1)) x1 2)) _ hq0 hq1 h
theorem ct_St_copy {g : GG} {d : Nat} {x0 : Nat} {x1 : Nat} {ν : Nm} {r : Nm} (hd0 : 2 ≤ d) (hq0 : zk 333 x0 (4, 0)) (hq1 : zk 333 x1 (4, 0)) (h : St_copy x0 x1 ν = some r) : Ct g d mX5_copy [.ref x0, .ref x1] (zem ν) (none, zem r) := y_entry in_X5_copy (Nat.le_of_ble_eq_true rfl) rfl (t_St_copy hd0 x0 x1 ν r hq0 hq1 h)
-- FuseMinutes$Told.copy(LFuseMinutes$Told;)V
theorem dX10_copy_0 : decode cX10_copy 0 = .ok (.aload_n 0, 1) := by decide +kernel
theorem dX10_copy_1 : decode cX10_copy 1 = .ok (.aload_n 1, 1) := by decide +kernel
theorem dX10_copy_2 : decode cX10_copy 2 = .ok (.getfield 13, 3) := by decide +kernel
theorem dX10_copy_5 : decode cX10_copy 5 = .ok (.putfield 13, 3) := by decide +kernel
theorem dX10_copy_8 : decode cX10_copy 8 = .ok (.iconst 0, 1) := by decide +kernel
theorem dX10_copy_9 : decode cX10_copy 9 = .ok (.istore_n 2, 1) := by decide +kernel
theorem dX10_copy_10 : decode cX10_copy 10 = .ok (.iload_n 2, 1) := by decide +kernel
theorem dX10_copy_11 : decode cX10_copy 11 = .ok (.aload_n 0, 1) := by decide +kernel
theorem dX10_copy_12 : decode cX10_copy 12 = .ok (.getfield 7, 3) := by decide +kernel
theorem dX10_copy_15 : decode cX10_copy 15 = .ok (.arraylength, 1) := by decide +kernel
theorem dX10_copy_16 : decode cX10_copy 16 = .ok (.if_icmp .ge 30, 3) := by decide +kernel
theorem dX10_copy_19 : decode cX10_copy 19 = .ok (.iload_n 2, 1) := by decide +kernel
theorem dX10_copy_20 : decode cX10_copy 20 = .ok (.aload_n 1, 1) := by decide +kernel
theorem dX10_copy_21 : decode cX10_copy 21 = .ok (.getfield 7, 3) := by decide +kernel
theorem dX10_copy_24 : decode cX10_copy 24 = .ok (.arraylength, 1) := by decide +kernel
theorem dX10_copy_25 : decode cX10_copy 25 = .ok (.if_icmp .ge 21, 3) := by decide +kernel
theorem dX10_copy_28 : decode cX10_copy 28 = .ok (.aload_n 0, 1) := by decide +kernel
theorem dX10_copy_29 : decode cX10_copy 29 = .ok (.getfield 7, 3) := by decide +kernel
theorem dX10_copy_32 : decode cX10_copy 32 = .ok (.iload_n 2, 1) := by decide +kernel
theorem dX10_copy_33 : decode cX10_copy 33 = .ok (.aload_n 1, 1) := by decide +kernel
theorem dX10_copy_34 : decode cX10_copy 34 = .ok (.getfield 7, 3) := by decide +kernel
theorem dX10_copy_37 : decode cX10_copy 37 = .ok (.iload_n 2, 1) := by decide +kernel
theorem dX10_copy_38 : decode cX10_copy 38 = .ok (.iaload, 1) := by decide +kernel
theorem dX10_copy_39 : decode cX10_copy 39 = .ok (.iastore, 1) := by decide +kernel
theorem dX10_copy_40 : decode cX10_copy 40 = .ok (.iinc 2 1, 3) := by decide +kernel
theorem dX10_copy_43 : decode cX10_copy 43 = .ok (.goto (-33), 3) := by decide +kernel
theorem dX10_copy_46 : decode cX10_copy 46 = .ok (.return_, 1) := by decide +kernel
def To_copy_10 : Nat → Nat → Nat → Int32 → Nm → Option Nm
  | 0, _, _, _, _ => none
  | f + 1, x0, x1, x2, ν =>
    (if (Int32.ofNat (tl x0)) ≤ x2 then
      some ν
    else
      (if (Int32.ofNat (tl x1)) ≤ x2 then
        some ν
      else
        if inb x2 (tl x1) then
        if inb x2 (tl x0) then
        (To_copy_10 f) x0 x1 (x2 + (1 : Int32)) (si ν (x0 + 1) x2.toNatClampNeg (gi ν (x1 + 1) x2.toNatClampNeg))
        else none
        else none))
set_option maxRecDepth 100000 in
set_option maxHeartbeats 4000000 in
theorem t_To_copy_10 {g : GG} {d : Nat} (hd0 : 1 ≤ d) : ∀ (f : Nat), ∀ (x0 : Nat) (x1 : Nat) (x2 : Int32) (ν : Nm) (r : Nm), zk 333 x0 (8, 0) → zk 333 x1 (8, 0) → To_copy_10 f x0 x1 x2 ν = some r → Z g d (0, 0) mX10_copy 333 0 0 10 [(0, .ref x0), (1, .ref x1), (2, .int x2)] [] (zem ν) (zF g (none, zem r)) := by
  intro f
  induction f with
  | zero =>
    intro x0 x1 x2 ν r hq0 hq1 h
    cases h
  | succ f ih =>
    intro x0 x1 x2 ν r hq0 hq1 h
    rw [To_copy_10] at h
    refine z_iload_n dX10_copy_10 2 rfl ?_
    refine z_aload_n dX10_copy_11 0 rfl ?_
    refine y_getR (M := mX10_copy) (r := (x0 + 1)) dX10_copy_12 hq0 flRX10_7 fr_8_0.1 (fr_8_0.2 _) ?_
    refine z_alen (M := mX10_copy) (v := (Int32.ofNat (tl x0))) dX10_copy_15 (zko_8_0 hq0) rfl ?_
    refine z_icmp_ge 46 dX10_copy_16 rfl (fun hc1 => ?_) (fun hc1 => ?_)
    · replace h := oT hc1 h
      cases h
      exact z_vret dX10_copy_46 rfl
    · replace h := oF hc1 h
      refine z_iload_n dX10_copy_19 2 rfl ?_
      refine z_aload_n dX10_copy_20 1 rfl ?_
      refine y_getR (M := mX10_copy) (r := (x1 + 1)) dX10_copy_21 hq1 flRX10_7 fr_8_0.1 (fr_8_0.2 _) ?_
      refine z_alen (M := mX10_copy) (v := (Int32.ofNat (tl x1))) dX10_copy_24 (zko_8_0 hq1) rfl ?_
      refine z_icmp_ge 46 dX10_copy_25 rfl (fun hc2 => ?_) (fun hc2 => ?_)
      · replace h := oT hc2 h
        cases h
        exact z_vret dX10_copy_46 rfl
      · replace h := oF hc2 h
        refine z_aload_n dX10_copy_28 0 rfl ?_
        refine y_getR (M := mX10_copy) (r := (x0 + 1)) dX10_copy_29 hq0 flRX10_7 fr_8_0.1 (fr_8_0.2 _) ?_
        refine z_iload_n dX10_copy_32 2 rfl ?_
        refine z_aload_n dX10_copy_33 1 rfl ?_
        refine y_getR (M := mX10_copy) (r := (x1 + 1)) dX10_copy_34 hq1 flRX10_7 fr_8_0.1 (fr_8_0.2 _) ?_
        refine z_iload_n dX10_copy_37 2 rfl ?_
        obtain ⟨hi3, h⟩ := oif h
        refine y_iald (M := mX10_copy) (jj := x2.toNatClampNeg) dX10_copy_38 (zko_8_0 hq1) hi3 rfl ?_
        obtain ⟨hi4, h⟩ := oif h
        refine y_iast (M := mX10_copy) (jj := x2.toNatClampNeg) dX10_copy_39 (zko_8_0 hq0) hi4 rfl ?_
        refine z_iinc (M := mX10_copy) (v := (x2 + (1 : Int32))) (lv2 := [(2, .int (x2 + (1 : Int32))), (0, .ref x0), (1, .ref x1)]) dX10_copy_40 2 rfl rfl (Nat.le_of_ble_eq_true rfl) rfl ?_
        refine z_goto 10 dX10_copy_43 rfl ?_
        refine z_lv (lv2 := [(0, .ref x0), (1, .ref x1), (2, .int (x2 + (1 : Int32)))]) [1, 2, 0] rfl ?_
        exact ih x0 x1 (x2 + (1 : Int32)) (si ν (x0 + 1) x2.toNatClampNeg (gi ν (x1 + 1) x2.toNatClampNeg)) _ hq0 hq1 h
def To_copy (x0 : Nat) (x1 : Nat) (ν : Nm) : Option Nm :=
  To_copy_10 FU x0 x1 (0 : Int32) (si ν x0 1 (gi ν x1 1))
set_option maxRecDepth 100000 in
set_option maxHeartbeats 4000000 in
theorem t_To_copy {g : GG} {d : Nat} (hd0 : 1 ≤ d) : ∀ (x0 : Nat) (x1 : Nat) (ν : Nm) (r : Nm), zk 333 x0 (8, 0) → zk 333 x1 (8, 0) → To_copy x0 x1 ν = some r → Z g d (0, 0) mX10_copy 333 0 0 0 [(0, .ref x0), (1, .ref x1)] [] (zem ν) (zF g (none, zem r)) := by
  intro x0 x1 ν r hq0 hq1 h
  unfold To_copy at h
  refine z_aload_n dX10_copy_0 0 rfl ?_
  refine z_aload_n dX10_copy_1 1 rfl ?_
  refine y_getI dX10_copy_2 hq1 flRX10_13 ?_
  refine y_putI dX10_copy_5 hq0 flRX10_13 ⟨rfl, rfl⟩ ?_
  refine z_iconst (M := mX10_copy) (v := 0) dX10_copy_8 rfl ?_
  refine z_istore_n (M := mX10_copy) (lv2 := [(2, .int (0 : Int32)), (0, .ref x0), (1, .ref x1)]) dX10_copy_9 (Nat.le_of_ble_eq_true rfl) rfl ?_
  refine z_lv (lv2 := [(0, .ref x0), (1, .ref x1), (2, .int (0 : Int32))]) [1, 2, 0] rfl ?_
  exact t_To_copy_10 hd0 FU x0 x1 (0 : Int32) (si ν x0 1 (gi ν x1 1)) _ hq0 hq1 h
theorem ct_To_copy {g : GG} {d : Nat} {x0 : Nat} {x1 : Nat} {ν : Nm} {r : Nm} (hd0 : 1 ≤ d) (hq0 : zk 333 x0 (8, 0)) (hq1 : zk 333 x1 (8, 0)) (h : To_copy x0 x1 ν = some r) : Ct g d mX10_copy [.ref x0, .ref x1] (zem ν) (none, zem r) := y_entry in_X10_copy (Nat.le_of_ble_eq_true rfl) rfl (t_To_copy hd0 x0 x1 ν r hq0 hq1 h)
-- FuseMinutes$Store.copy(LFuseMinutes$Store;)V
theorem dX6_copy_0 : decode cX6_copy 0 = .ok (.aload_n 0, 1) := by decide +kernel
theorem dX6_copy_1 : decode cX6_copy 1 = .ok (.getfield 12, 3) := by decide +kernel
theorem dX6_copy_4 : decode cX6_copy 4 = .ok (.aload_n 1, 1) := by decide +kernel
theorem dX6_copy_5 : decode cX6_copy 5 = .ok (.getfield 12, 3) := by decide +kernel
theorem dX6_copy_8 : decode cX6_copy 8 = .ok (.invokevirtual 54, 3) := by decide +kernel
theorem dX6_copy_11 : decode cX6_copy 11 = .ok (.aload_n 0, 1) := by decide +kernel
theorem dX6_copy_12 : decode cX6_copy 12 = .ok (.getfield 21, 3) := by decide +kernel
theorem dX6_copy_15 : decode cX6_copy 15 = .ok (.aload_n 1, 1) := by decide +kernel
theorem dX6_copy_16 : decode cX6_copy 16 = .ok (.getfield 21, 3) := by decide +kernel
theorem dX6_copy_19 : decode cX6_copy 19 = .ok (.invokevirtual 58, 3) := by decide +kernel
theorem dX6_copy_22 : decode cX6_copy 22 = .ok (.aload_n 1, 1) := by decide +kernel
theorem dX6_copy_23 : decode cX6_copy 23 = .ok (.getfield 25, 3) := by decide +kernel
theorem dX6_copy_26 : decode cX6_copy 26 = .ok (.iconst 0, 1) := by decide +kernel
theorem dX6_copy_27 : decode cX6_copy 27 = .ok (.aload_n 0, 1) := by decide +kernel
theorem dX6_copy_28 : decode cX6_copy 28 = .ok (.getfield 25, 3) := by decide +kernel
theorem dX6_copy_31 : decode cX6_copy 31 = .ok (.iconst 0, 1) := by decide +kernel
theorem dX6_copy_32 : decode cX6_copy 32 = .ok (.iconst 4, 1) := by decide +kernel
theorem dX6_copy_33 : decode cX6_copy 33 = .ok (.invokestatic 61, 3) := by decide +kernel
theorem dX6_copy_36 : decode cX6_copy 36 = .ok (.aload_n 1, 1) := by decide +kernel
theorem dX6_copy_37 : decode cX6_copy 37 = .ok (.getfield 29, 3) := by decide +kernel
theorem dX6_copy_40 : decode cX6_copy 40 = .ok (.iconst 0, 1) := by decide +kernel
theorem dX6_copy_41 : decode cX6_copy 41 = .ok (.aload_n 0, 1) := by decide +kernel
theorem dX6_copy_42 : decode cX6_copy 42 = .ok (.getfield 29, 3) := by decide +kernel
theorem dX6_copy_45 : decode cX6_copy 45 = .ok (.iconst 0, 1) := by decide +kernel
theorem dX6_copy_46 : decode cX6_copy 46 = .ok (.iconst 4, 1) := by decide +kernel
theorem dX6_copy_47 : decode cX6_copy 47 = .ok (.invokestatic 61, 3) := by decide +kernel
theorem dX6_copy_50 : decode cX6_copy 50 = .ok (.aload_n 0, 1) := by decide +kernel
theorem dX6_copy_51 : decode cX6_copy 51 = .ok (.aload_n 1, 1) := by decide +kernel
theorem dX6_copy_52 : decode cX6_copy 52 = .ok (.getfield 67, 3) := by decide +kernel
theorem dX6_copy_55 : decode cX6_copy 55 = .ok (.putfield 67, 3) := by decide +kernel
theorem dX6_copy_58 : decode cX6_copy 58 = .ok (.aload_n 0, 1) := by decide +kernel
theorem dX6_copy_59 : decode cX6_copy 59 = .ok (.aload_n 1, 1) := by decide +kernel
theorem dX6_copy_60 : decode cX6_copy 60 = .ok (.getfield 32, 3) := by decide +kernel
theorem dX6_copy_63 : decode cX6_copy 63 = .ok (.putfield 32, 3) := by decide +kernel
theorem dX6_copy_66 : decode cX6_copy 66 = .ok (.aload_n 0, 1) := by decide +kernel
theorem dX6_copy_67 : decode cX6_copy 67 = .ok (.aload_n 1, 1) := by decide +kernel
theorem dX6_copy_68 : decode cX6_copy 68 = .ok (.getfield 70, 3) := by decide +kernel
theorem dX6_copy_71 : decode cX6_copy 71 = .ok (.putfield 70, 3) := by decide +kernel
theorem dX6_copy_74 : decode cX6_copy 74 = .ok (.aload_n 0, 1) := by decide +kernel
theorem dX6_copy_75 : decode cX6_copy 75 = .ok (.aload_n 1, 1) := by decide +kernel
theorem dX6_copy_76 : decode cX6_copy 76 = .ok (.getfield 36, 3) := by decide +kernel
theorem dX6_copy_79 : decode cX6_copy 79 = .ok (.putfield 36, 3) := by decide +kernel
theorem dX6_copy_82 : decode cX6_copy 82 = .ok (.aload_n 0, 1) := by decide +kernel
theorem dX6_copy_83 : decode cX6_copy 83 = .ok (.getfield 44, 3) := by decide +kernel
theorem dX6_copy_86 : decode cX6_copy 86 = .ok (.aload_n 1, 1) := by decide +kernel
theorem dX6_copy_87 : decode cX6_copy 87 = .ok (.getfield 44, 3) := by decide +kernel
theorem dX6_copy_90 : decode cX6_copy 90 = .ok (.invokevirtual 73, 3) := by decide +kernel
theorem dX6_copy_93 : decode cX6_copy 93 = .ok (.aload_n 0, 1) := by decide +kernel
theorem dX6_copy_94 : decode cX6_copy 94 = .ok (.getfield 48, 3) := by decide +kernel
theorem dX6_copy_97 : decode cX6_copy 97 = .ok (.aload_n 1, 1) := by decide +kernel
theorem dX6_copy_98 : decode cX6_copy 98 = .ok (.getfield 48, 3) := by decide +kernel
theorem dX6_copy_101 : decode cX6_copy 101 = .ok (.invokevirtual 73, 3) := by decide +kernel
theorem dX6_copy_104 : decode cX6_copy 104 = .ok (.aload_n 0, 1) := by decide +kernel
theorem dX6_copy_105 : decode cX6_copy 105 = .ok (.getfield 51, 3) := by decide +kernel
theorem dX6_copy_108 : decode cX6_copy 108 = .ok (.aload_n 1, 1) := by decide +kernel
theorem dX6_copy_109 : decode cX6_copy 109 = .ok (.getfield 51, 3) := by decide +kernel
theorem dX6_copy_112 : decode cX6_copy 112 = .ok (.invokevirtual 73, 3) := by decide +kernel
theorem dX6_copy_115 : decode cX6_copy 115 = .ok (.return_, 1) := by decide +kernel
def So_copy_66 (x0 : Nat) (x1 : Nat) (ν : Nm) : Option Nm :=
  (To_copy (x0 + 129) (x1 + 129) (si (si ν x0 6 (gi ν x1 6)) x0 7 (gi (si ν x0 6 (gi ν x1 6)) x1 7))).bind fun v1 =>
  (To_copy (x0 + 131) (x1 + 131) v1).bind fun v2 =>
  (To_copy (x0 + 133) (x1 + 133) v2).bind fun v3 =>
  some v3
set_option maxRecDepth 100000 in
set_option maxHeartbeats 4000000 in
theorem t_So_copy_66 {g : GG} {d : Nat} (hd0 : 3 ≤ d) : ∀ (x0 : Nat) (x1 : Nat) (ν : Nm) (r : Nm), zk 333 x0 (5, 0) → zk 333 x1 (5, 0) → So_copy_66 x0 x1 ν = some r → Z g d (0, 0) mX6_copy 333 0 0 66 [(0, .ref x0), (1, .ref x1)] [] (zem ν) (zF g (none, zem r)) := by
  intro x0 x1 ν r hq0 hq1 h
  unfold So_copy_66 at h
  refine z_aload_n dX6_copy_66 0 rfl ?_
  refine z_aload_n dX6_copy_67 1 rfl ?_
  refine y_getI dX6_copy_68 hq1 flRX6_70 ?_
  refine y_putI dX6_copy_71 hq0 flRX6_70 ⟨rfl, rfl⟩ ?_
  refine z_aload_n dX6_copy_74 0 rfl ?_
  refine z_aload_n dX6_copy_75 1 rfl ?_
  refine y_getI dX6_copy_76 hq1 flRX6_36 ?_
  refine y_putI dX6_copy_79 hq0 flRX6_36 ⟨rfl, rfl⟩ ?_
  refine z_aload_n dX6_copy_82 0 rfl ?_
  refine y_getR (M := mX6_copy) (r := (x0 + 129)) dX6_copy_83 hq0 flRX6_44 fr_5_8.1 (fr_5_8.2 _) ?_
  refine z_aload_n dX6_copy_86 1 rfl ?_
  refine y_getR (M := mX6_copy) (r := (x1 + 129)) dX6_copy_87 hq1 flRX6_44 fr_5_8.1 (fr_5_8.2 _) ?_
  obtain ⟨v1, he1, h⟩ := obind h
  refine y_Vv (M := mX6_copy) (Y := mX10_copy) (d2 := d - 1) (As := [.ref (x1 + 129)]) (st := []) dX6_copy_90 mlRX6_73 cv_X10_copy (zko_5_8 hq0) (ct_To_copy (dle (Nat.le_of_ble_eq_true rfl) hd0) (zko_5_8 hq0) (zko_5_8 hq1) he1) (dps (Nat.le_of_ble_eq_true rfl) hd0) rfl rfl (Nat.le_of_ble_eq_true rfl) ?_
  refine z_aload_n dX6_copy_93 0 rfl ?_
  refine y_getR (M := mX6_copy) (r := (x0 + 131)) dX6_copy_94 hq0 flRX6_48 fr_5_9.1 (fr_5_9.2 _) ?_
  refine z_aload_n dX6_copy_97 1 rfl ?_
  refine y_getR (M := mX6_copy) (r := (x1 + 131)) dX6_copy_98 hq1 flRX6_48 fr_5_9.1 (fr_5_9.2 _) ?_
  obtain ⟨v2, he2, h⟩ := obind h
  refine y_Vv (M := mX6_copy) (Y := mX10_copy) (d2 := d - 1) (As := [.ref (x1 + 131)]) (st := []) dX6_copy_101 mlRX6_73 cv_X10_copy (zko_5_9 hq0) (ct_To_copy (dle (Nat.le_of_ble_eq_true rfl) hd0) (zko_5_9 hq0) (zko_5_9 hq1) he2) (dps (Nat.le_of_ble_eq_true rfl) hd0) rfl rfl (Nat.le_of_ble_eq_true rfl) ?_
  refine z_aload_n dX6_copy_104 0 rfl ?_
  refine y_getR (M := mX6_copy) (r := (x0 + 133)) dX6_copy_105 hq0 flRX6_51 fr_5_10.1 (fr_5_10.2 _) ?_
  refine z_aload_n dX6_copy_108 1 rfl ?_
  refine y_getR (M := mX6_copy) (r := (x1 + 133)) dX6_copy_109 hq1 flRX6_51 fr_5_10.1 (fr_5_10.2 _) ?_
  obtain ⟨v3, he3, h⟩ := obind h
  refine y_Vv (M := mX6_copy) (Y := mX10_copy) (d2 := d - 1) (As := [.ref (x1 + 133)]) (st := []) dX6_copy_112 mlRX6_73 cv_X10_copy (zko_5_10 hq0) (ct_To_copy (dle (Nat.le_of_ble_eq_true rfl) hd0) (zko_5_10 hq0) (zko_5_10 hq1) he3) (dps (Nat.le_of_ble_eq_true rfl) hd0) rfl rfl (Nat.le_of_ble_eq_true rfl) ?_
  cases h
  exact z_vret dX6_copy_115 rfl
def So_copy (x0 : Nat) (x1 : Nat) (ν : Nm) : Option Nm :=
  (Pt_copy (x0 + 1) (x1 + 1) ν).bind fun v1 =>
  (St_copy (x0 + 5) (x1 + 5) v1).bind fun v2 =>
  So_copy_66 x0 x1 (si (si (scp (scp v2 (x1 + 127) 0 (x0 + 127) 0 4) (x1 + 128) 0 (x0 + 128) 0 4) x0 4 (gi (scp (scp v2 (x1 + 127) 0 (x0 + 127) 0 4) (x1 + 128) 0 (x0 + 128) 0 4) x1 4)) x0 5 (gi (si (scp (scp v2 (x1 + 127) 0 (x0 + 127) 0 4) (x1 + 128) 0 (x0 + 128) 0 4) x0 4 (gi (scp (scp v2 (x1 + 127) 0 (x0 + 127) 0 4) (x1 + 128) 0 (x0 + 128) 0 4) x1 4)) x1 5))
set_option maxRecDepth 100000 in
set_option maxHeartbeats 4000000 in
theorem t_So_copy {g : GG} {d : Nat} (hd0 : 3 ≤ d) : ∀ (x0 : Nat) (x1 : Nat) (ν : Nm) (r : Nm), zk 333 x0 (5, 0) → zk 333 x1 (5, 0) → So_copy x0 x1 ν = some r → Z g d (0, 0) mX6_copy 333 0 0 0 [(0, .ref x0), (1, .ref x1)] [] (zem ν) (zF g (none, zem r)) := by
  intro x0 x1 ν r hq0 hq1 h
  unfold So_copy at h
  refine z_aload_n dX6_copy_0 0 rfl ?_
  refine y_getR (M := mX6_copy) (r := (x0 + 1)) dX6_copy_1 hq0 flRX6_12 fr_5_0.1 (fr_5_0.2 _) ?_
  refine z_aload_n dX6_copy_4 1 rfl ?_
  refine y_getR (M := mX6_copy) (r := (x1 + 1)) dX6_copy_5 hq1 flRX6_12 fr_5_0.1 (fr_5_0.2 _) ?_
  obtain ⟨v1, he1, h⟩ := obind h
  refine y_Vv (M := mX6_copy) (Y := mX2_copy) (d2 := d - 1) (As := [.ref (x1 + 1)]) (st := []) dX6_copy_8 mlRX6_54 cv_X2_copy (zko_5_0 hq0) (ct_Pt_copy (dle (Nat.le_of_ble_eq_true rfl) hd0) (zko_5_0 hq0) (zko_5_0 hq1) he1) (dps (Nat.le_of_ble_eq_true rfl) hd0) rfl rfl (Nat.le_of_ble_eq_true rfl) ?_
  refine z_aload_n dX6_copy_11 0 rfl ?_
  refine y_getR (M := mX6_copy) (r := (x0 + 5)) dX6_copy_12 hq0 flRX6_21 fr_5_1.1 (fr_5_1.2 _) ?_
  refine z_aload_n dX6_copy_15 1 rfl ?_
  refine y_getR (M := mX6_copy) (r := (x1 + 5)) dX6_copy_16 hq1 flRX6_21 fr_5_1.1 (fr_5_1.2 _) ?_
  obtain ⟨v2, he2, h⟩ := obind h
  refine y_Vv (M := mX6_copy) (Y := mX5_copy) (d2 := d - 1) (As := [.ref (x1 + 5)]) (st := []) dX6_copy_19 mlRX6_58 cv_X5_copy (zko_5_1 hq0) (ct_St_copy (dle (Nat.le_of_ble_eq_true rfl) hd0) (zko_5_1 hq0) (zko_5_1 hq1) he2) (dps (Nat.le_of_ble_eq_true rfl) hd0) rfl rfl (Nat.le_of_ble_eq_true rfl) ?_
  refine z_aload_n dX6_copy_22 1 rfl ?_
  refine y_getR (M := mX6_copy) (r := (x1 + 127)) dX6_copy_23 hq1 flRX6_25 fr_5_2.1 (fr_5_2.2 _) ?_
  refine z_iconst (M := mX6_copy) (v := 0) dX6_copy_26 rfl ?_
  refine z_aload_n dX6_copy_27 0 rfl ?_
  refine y_getR (M := mX6_copy) (r := (x0 + 127)) dX6_copy_28 hq0 flRX6_25 fr_5_2.1 (fr_5_2.2 _) ?_
  refine z_iconst (M := mX6_copy) (v := 0) dX6_copy_31 rfl ?_
  refine z_iconst (M := mX6_copy) (v := 4) dX6_copy_32 rfl ?_
  refine y_copy dX6_copy_33 (cpw mlRX6_61) (zko_5_2 hq1) (zko_5_2 hq0) (by decide) (Nat.le_trans (Nat.le_of_ble_eq_true rfl) hd0) (Nat.le_of_ble_eq_true rfl) rfl rfl rfl ?_
  refine z_aload_n dX6_copy_36 1 rfl ?_
  refine y_getR (M := mX6_copy) (r := (x1 + 128)) dX6_copy_37 hq1 flRX6_29 fr_5_3.1 (fr_5_3.2 _) ?_
  refine z_iconst (M := mX6_copy) (v := 0) dX6_copy_40 rfl ?_
  refine z_aload_n dX6_copy_41 0 rfl ?_
  refine y_getR (M := mX6_copy) (r := (x0 + 128)) dX6_copy_42 hq0 flRX6_29 fr_5_3.1 (fr_5_3.2 _) ?_
  refine z_iconst (M := mX6_copy) (v := 0) dX6_copy_45 rfl ?_
  refine z_iconst (M := mX6_copy) (v := 4) dX6_copy_46 rfl ?_
  refine y_copy dX6_copy_47 (cpw mlRX6_61) (zko_5_3 hq1) (zko_5_3 hq0) (by decide) (Nat.le_trans (Nat.le_of_ble_eq_true rfl) hd0) (Nat.le_of_ble_eq_true rfl) rfl rfl rfl ?_
  refine z_aload_n dX6_copy_50 0 rfl ?_
  refine z_aload_n dX6_copy_51 1 rfl ?_
  refine y_getI dX6_copy_52 hq1 flRX6_67 ?_
  refine y_putI dX6_copy_55 hq0 flRX6_67 ⟨rfl, rfl⟩ ?_
  refine z_aload_n dX6_copy_58 0 rfl ?_
  refine z_aload_n dX6_copy_59 1 rfl ?_
  refine y_getI dX6_copy_60 hq1 flRX6_32 ?_
  refine y_putI dX6_copy_63 hq0 flRX6_32 ⟨rfl, rfl⟩ ?_
  exact t_So_copy_66 hd0  x0 x1 (si (si (scp (scp v2 (x1 + 127) 0 (x0 + 127) 0 4) (x1 + 128) 0 (x0 + 128) 0 4) x0 4 (gi (scp (scp v2 (x1 + 127) 0 (x0 + 127) 0 4) (x1 + 128) 0 (x0 + 128) 0 4) x1 4)) x0 5 (gi (si (scp (scp v2 (x1 + 127) 0 (x0 + 127) 0 4) (x1 + 128) 0 (x0 + 128) 0 4) x0 4 (gi (scp (scp v2 (x1 + 127) 0 (x0 + 127) 0 4) (x1 + 128) 0 (x0 + 128) 0 4) x1 4)) x1 5)) _ hq0 hq1 h
theorem ct_So_copy {g : GG} {d : Nat} {x0 : Nat} {x1 : Nat} {ν : Nm} {r : Nm} (hd0 : 3 ≤ d) (hq0 : zk 333 x0 (5, 0)) (hq1 : zk 333 x1 (5, 0)) (h : So_copy x0 x1 ν = some r) : Ct g d mX6_copy [.ref x0, .ref x1] (zem ν) (none, zem r) := y_entry in_X6_copy (Nat.le_of_ble_eq_true rfl) rfl (t_So_copy hd0 x0 x1 ν r hq0 hq1 h)
-- FuseMinutes$Store.priceOf(I)I
theorem dX6_priceOf_0 : decode cX6_priceOf 0 = .ok (.iconst 0, 1) := by decide +kernel
theorem dX6_priceOf_1 : decode cX6_priceOf 1 = .ok (.istore_n 2, 1) := by decide +kernel
theorem dX6_priceOf_2 : decode cX6_priceOf 2 = .ok (.iconst 0, 1) := by decide +kernel
theorem dX6_priceOf_3 : decode cX6_priceOf 3 = .ok (.istore_n 3, 1) := by decide +kernel
theorem dX6_priceOf_4 : decode cX6_priceOf 4 = .ok (.iload_n 3, 1) := by decide +kernel
theorem dX6_priceOf_5 : decode cX6_priceOf 5 = .ok (.iconst 4, 1) := by decide +kernel
theorem dX6_priceOf_6 : decode cX6_priceOf 6 = .ok (.if_icmp .ge 26, 3) := by decide +kernel
theorem dX6_priceOf_9 : decode cX6_priceOf 9 = .ok (.iload_n 1, 1) := by decide +kernel
theorem dX6_priceOf_10 : decode cX6_priceOf 10 = .ok (.iload_n 3, 1) := by decide +kernel
theorem dX6_priceOf_11 : decode cX6_priceOf 11 = .ok (.ishr, 1) := by decide +kernel
theorem dX6_priceOf_12 : decode cX6_priceOf 12 = .ok (.iconst 1, 1) := by decide +kernel
theorem dX6_priceOf_13 : decode cX6_priceOf 13 = .ok (.iand, 1) := by decide +kernel
theorem dX6_priceOf_14 : decode cX6_priceOf 14 = .ok (.ifCond .eq 12, 3) := by decide +kernel
theorem dX6_priceOf_17 : decode cX6_priceOf 17 = .ok (.iload_n 2, 1) := by decide +kernel
theorem dX6_priceOf_18 : decode cX6_priceOf 18 = .ok (.aload_n 0, 1) := by decide +kernel
theorem dX6_priceOf_19 : decode cX6_priceOf 19 = .ok (.getfield 29, 3) := by decide +kernel
theorem dX6_priceOf_22 : decode cX6_priceOf 22 = .ok (.iload_n 3, 1) := by decide +kernel
theorem dX6_priceOf_23 : decode cX6_priceOf 23 = .ok (.iaload, 1) := by decide +kernel
theorem dX6_priceOf_24 : decode cX6_priceOf 24 = .ok (.iadd, 1) := by decide +kernel
theorem dX6_priceOf_25 : decode cX6_priceOf 25 = .ok (.istore_n 2, 1) := by decide +kernel
theorem dX6_priceOf_26 : decode cX6_priceOf 26 = .ok (.iinc 3 1, 3) := by decide +kernel
theorem dX6_priceOf_29 : decode cX6_priceOf 29 = .ok (.goto (-25), 3) := by decide +kernel
theorem dX6_priceOf_32 : decode cX6_priceOf 32 = .ok (.iload_n 2, 1) := by decide +kernel
theorem dX6_priceOf_33 : decode cX6_priceOf 33 = .ok (.ireturn, 1) := by decide +kernel
def So_priceOf_26 (ν : Nm) (k4 : Nat → Int32 → Int32 → Int32 → Option Int32) (x0 : Nat) (x1 : Int32) (x2 : Int32) (x3 : Int32) : Option Int32 :=
  k4 x0 x1 x2 (x3 + (1 : Int32))
set_option maxRecDepth 100000 in
set_option maxHeartbeats 4000000 in
theorem t_So_priceOf_26 {g : GG} {d : Nat} {ν : Nm} (hd0 : 1 ≤ d) {k4 : Nat → Int32 → Int32 → Int32 → Option Int32} (hk4 : ∀ (x0 : Nat) (x1 : Int32) (x2 : Int32) (x3 : Int32) (r : Int32), zk 333 x0 (5, 0) → k4 x0 x1 x2 x3 = some r → Z g d (0, 0) mX6_priceOf 333 0 0 4 [(0, .ref x0), (1, .int x1), (2, .int x2), (3, .int x3)] [] (zem ν) (zF g (some (.int r), zem ν))) : ∀ (x0 : Nat) (x1 : Int32) (x2 : Int32) (x3 : Int32) (r : Int32), zk 333 x0 (5, 0) → So_priceOf_26 ν k4 x0 x1 x2 x3 = some r → Z g d (0, 0) mX6_priceOf 333 0 0 26 [(0, .ref x0), (1, .int x1), (2, .int x2), (3, .int x3)] [] (zem ν) (zF g (some (.int r), zem ν)) := by
  intro x0 x1 x2 x3 r hq0 h
  unfold So_priceOf_26 at h
  refine z_iinc (M := mX6_priceOf) (v := (x3 + (1 : Int32))) (lv2 := [(3, .int (x3 + (1 : Int32))), (0, .ref x0), (1, .int x1), (2, .int x2)]) dX6_priceOf_26 3 rfl rfl (Nat.le_of_ble_eq_true rfl) rfl ?_
  refine z_goto 4 dX6_priceOf_29 rfl ?_
  refine z_lv (lv2 := [(0, .ref x0), (1, .int x1), (2, .int x2), (3, .int (x3 + (1 : Int32)))]) [1, 2, 3, 0] rfl ?_
  exact hk4 x0 x1 x2 (x3 + (1 : Int32)) _ hq0 h
def So_priceOf_4 (ν : Nm) : Nat → Nat → Int32 → Int32 → Int32 → Option Int32
  | 0, _, _, _, _ => none
  | f + 1, x0, x1, x2, x3 =>
    (if (4 : Int32) ≤ x3 then
      some x2
    else
      (if ((x1 >>> (x3 &&& 31)) &&& (1 : Int32)) = 0 then
        So_priceOf_26 ν (So_priceOf_4 ν f) x0 x1 x2 x3
      else
        if inb x3 4 then
        So_priceOf_26 ν (So_priceOf_4 ν f) x0 x1 (x2 + (gi ν (x0 + 128) x3.toNatClampNeg)) x3
        else none))
set_option maxRecDepth 100000 in
set_option maxHeartbeats 4000000 in
theorem t_So_priceOf_4 {g : GG} {d : Nat} {ν : Nm} (hd0 : 1 ≤ d) : ∀ (f : Nat), ∀ (x0 : Nat) (x1 : Int32) (x2 : Int32) (x3 : Int32) (r : Int32), zk 333 x0 (5, 0) → So_priceOf_4 ν f x0 x1 x2 x3 = some r → Z g d (0, 0) mX6_priceOf 333 0 0 4 [(0, .ref x0), (1, .int x1), (2, .int x2), (3, .int x3)] [] (zem ν) (zF g (some (.int r), zem ν)) := by
  intro f
  induction f with
  | zero =>
    intro x0 x1 x2 x3 r hq0 h
    cases h
  | succ f ih =>
    intro x0 x1 x2 x3 r hq0 h
    rw [So_priceOf_4] at h
    refine z_iload_n dX6_priceOf_4 3 rfl ?_
    refine z_iconst (M := mX6_priceOf) (v := 4) dX6_priceOf_5 rfl ?_
    refine z_icmp_ge 32 dX6_priceOf_6 rfl (fun hc1 => ?_) (fun hc1 => ?_)
    · replace h := oT hc1 h
      refine z_iload_n dX6_priceOf_32 2 rfl ?_
      cases h
      exact z_iret dX6_priceOf_33 rfl
    · replace h := oF hc1 h
      refine z_iload_n dX6_priceOf_9 1 rfl ?_
      refine z_iload_n dX6_priceOf_10 3 rfl ?_
      refine z_ishr dX6_priceOf_11 ?_
      refine z_iconst (M := mX6_priceOf) (v := 1) dX6_priceOf_12 rfl ?_
      refine z_iand dX6_priceOf_13 ?_
      refine z_if_eq 26 dX6_priceOf_14 rfl (fun hc2 => ?_) (fun hc2 => ?_)
      · replace h := oT hc2 h
        exact t_So_priceOf_26 hd0 ih x0 x1 x2 x3 _ hq0 h
      · replace h := oF hc2 h
        refine z_iload_n dX6_priceOf_17 2 rfl ?_
        refine z_aload_n dX6_priceOf_18 0 rfl ?_
        refine y_getR (M := mX6_priceOf) (r := (x0 + 128)) dX6_priceOf_19 hq0 flRX6_29 fr_5_3.1 (fr_5_3.2 _) ?_
        refine z_iload_n dX6_priceOf_22 3 rfl ?_
        obtain ⟨hi3, h⟩ := oif h
        refine y_iald (M := mX6_priceOf) (jj := x3.toNatClampNeg) dX6_priceOf_23 (zko_5_3 hq0) hi3 rfl ?_
        refine z_iadd dX6_priceOf_24 ?_
        refine z_istore_n (M := mX6_priceOf) (lv2 := [(2, .int (x2 + (gi ν (x0 + 128) x3.toNatClampNeg))), (0, .ref x0), (1, .int x1), (3, .int x3)]) dX6_priceOf_25 (Nat.le_of_ble_eq_true rfl) rfl ?_
        refine z_lv (lv2 := [(0, .ref x0), (1, .int x1), (2, .int (x2 + (gi ν (x0 + 128) x3.toNatClampNeg))), (3, .int x3)]) [1, 2, 0, 3] rfl ?_
        exact t_So_priceOf_26 hd0 ih x0 x1 (x2 + (gi ν (x0 + 128) x3.toNatClampNeg)) x3 _ hq0 h
def So_priceOf (ν : Nm) (x0 : Nat) (x1 : Int32) : Option Int32 :=
  So_priceOf_4 ν FU x0 x1 (0 : Int32) (0 : Int32)
set_option maxRecDepth 100000 in
set_option maxHeartbeats 4000000 in
theorem t_So_priceOf {g : GG} {d : Nat} {ν : Nm} (hd0 : 1 ≤ d) : ∀ (x0 : Nat) (x1 : Int32) (r : Int32), zk 333 x0 (5, 0) → So_priceOf ν x0 x1 = some r → Z g d (0, 0) mX6_priceOf 333 0 0 0 [(0, .ref x0), (1, .int x1)] [] (zem ν) (zF g (some (.int r), zem ν)) := by
  intro x0 x1 r hq0 h
  unfold So_priceOf at h
  refine z_iconst (M := mX6_priceOf) (v := 0) dX6_priceOf_0 rfl ?_
  refine z_istore_n (M := mX6_priceOf) (lv2 := [(2, .int (0 : Int32)), (0, .ref x0), (1, .int x1)]) dX6_priceOf_1 (Nat.le_of_ble_eq_true rfl) rfl ?_
  refine z_iconst (M := mX6_priceOf) (v := 0) dX6_priceOf_2 rfl ?_
  refine z_istore_n (M := mX6_priceOf) (lv2 := [(3, .int (0 : Int32)), (2, .int (0 : Int32)), (0, .ref x0), (1, .int x1)]) dX6_priceOf_3 (Nat.le_of_ble_eq_true rfl) rfl ?_
  refine z_lv (lv2 := [(0, .ref x0), (1, .int x1), (2, .int (0 : Int32)), (3, .int (0 : Int32))]) [2, 3, 1, 0] rfl ?_
  exact t_So_priceOf_4 hd0 FU x0 x1 (0 : Int32) (0 : Int32) _ hq0 h
theorem ct_So_priceOf {g : GG} {d : Nat} {x0 : Nat} {x1 : Int32} {ν : Nm} {r : Int32} (hd0 : 1 ≤ d) (hq0 : zk 333 x0 (5, 0)) (h : So_priceOf ν x0 x1 = some r) : Ct g d mX6_priceOf [.ref x0, .int x1] (zem ν) (some (.int r), zem ν) := y_entry in_X6_priceOf (Nat.le_of_ble_eq_true rfl) rfl (t_So_priceOf hd0 x0 x1 r hq0 h)
-- FuseMinutes$Suspects.fits(ILFuseMinutes$Told;)Z
theorem dX8_fits_0 : decode cX8_fits 0 = .ok (.iconst 0, 1) := by decide +kernel
theorem dX8_fits_1 : decode cX8_fits 1 = .ok (.istore_n 2, 1) := by decide +kernel
theorem dX8_fits_2 : decode cX8_fits 2 = .ok (.iload_n 2, 1) := by decide +kernel
theorem dX8_fits_3 : decode cX8_fits 3 = .ok (.aload_n 1, 1) := by decide +kernel
theorem dX8_fits_4 : decode cX8_fits 4 = .ok (.getfield 9, 3) := by decide +kernel
theorem dX8_fits_7 : decode cX8_fits 7 = .ok (.if_icmp .ge 63, 3) := by decide +kernel
theorem dX8_fits_10 : decode cX8_fits 10 = .ok (.iload_n 2, 1) := by decide +kernel
theorem dX8_fits_11 : decode cX8_fits 11 = .ok (.aload_n 1, 1) := by decide +kernel
theorem dX8_fits_12 : decode cX8_fits 12 = .ok (.getfield 15, 3) := by decide +kernel
theorem dX8_fits_15 : decode cX8_fits 15 = .ok (.arraylength, 1) := by decide +kernel
theorem dX8_fits_16 : decode cX8_fits 16 = .ok (.if_icmp .ge 54, 3) := by decide +kernel
theorem dX8_fits_19 : decode cX8_fits 19 = .ok (.aload_n 1, 1) := by decide +kernel
theorem dX8_fits_20 : decode cX8_fits 20 = .ok (.getfield 15, 3) := by decide +kernel
theorem dX8_fits_23 : decode cX8_fits 23 = .ok (.iload_n 2, 1) := by decide +kernel
theorem dX8_fits_24 : decode cX8_fits 24 = .ok (.iaload, 1) := by decide +kernel
theorem dX8_fits_25 : decode cX8_fits 25 = .ok (.iconst 1, 1) := by decide +kernel
theorem dX8_fits_26 : decode cX8_fits 26 = .ok (.iand, 1) := by decide +kernel
theorem dX8_fits_27 : decode cX8_fits 27 = .ok (.ifCond .eq 7, 3) := by decide +kernel
theorem dX8_fits_30 : decode cX8_fits 30 = .ok (.iconst 1, 1) := by decide +kernel
theorem dX8_fits_31 : decode cX8_fits 31 = .ok (.goto 4, 3) := by decide +kernel
theorem dX8_fits_34 : decode cX8_fits 34 = .ok (.iconst 0, 1) := by decide +kernel
theorem dX8_fits_35 : decode cX8_fits 35 = .ok (.istore_n 3, 1) := by decide +kernel
theorem dX8_fits_36 : decode cX8_fits 36 = .ok (.iload_n 0, 1) := by decide +kernel
theorem dX8_fits_37 : decode cX8_fits 37 = .ok (.aload_n 1, 1) := by decide +kernel
theorem dX8_fits_38 : decode cX8_fits 38 = .ok (.getfield 15, 3) := by decide +kernel
theorem dX8_fits_41 : decode cX8_fits 41 = .ok (.iload_n 2, 1) := by decide +kernel
theorem dX8_fits_42 : decode cX8_fits 42 = .ok (.iaload, 1) := by decide +kernel
theorem dX8_fits_43 : decode cX8_fits 43 = .ok (.iconst 1, 1) := by decide +kernel
theorem dX8_fits_44 : decode cX8_fits 44 = .ok (.ishr, 1) := by decide +kernel
theorem dX8_fits_45 : decode cX8_fits 45 = .ok (.iand, 1) := by decide +kernel
theorem dX8_fits_46 : decode cX8_fits 46 = .ok (.ifCond .eq 7, 3) := by decide +kernel
theorem dX8_fits_49 : decode cX8_fits 49 = .ok (.iconst 1, 1) := by decide +kernel
theorem dX8_fits_50 : decode cX8_fits 50 = .ok (.goto 4, 3) := by decide +kernel
theorem dX8_fits_53 : decode cX8_fits 53 = .ok (.iconst 0, 1) := by decide +kernel
theorem dX8_fits_54 : decode cX8_fits 54 = .ok (.istore 4, 2) := by decide +kernel
theorem dX8_fits_56 : decode cX8_fits 56 = .ok (.iload_n 3, 1) := by decide +kernel
theorem dX8_fits_57 : decode cX8_fits 57 = .ok (.iload 4, 2) := by decide +kernel
theorem dX8_fits_59 : decode cX8_fits 59 = .ok (.if_icmp .eq 5, 3) := by decide +kernel
theorem dX8_fits_62 : decode cX8_fits 62 = .ok (.iconst 0, 1) := by decide +kernel
theorem dX8_fits_63 : decode cX8_fits 63 = .ok (.ireturn, 1) := by decide +kernel
theorem dX8_fits_64 : decode cX8_fits 64 = .ok (.iinc 2 1, 3) := by decide +kernel
theorem dX8_fits_67 : decode cX8_fits 67 = .ok (.goto (-65), 3) := by decide +kernel
theorem dX8_fits_70 : decode cX8_fits 70 = .ok (.iconst 1, 1) := by decide +kernel
theorem dX8_fits_71 : decode cX8_fits 71 = .ok (.ireturn, 1) := by decide +kernel
def Sp_fits_54 (ν : Nm) (k2 : Int32 → Nat → Int32 → Option Bool) (x0 : Int32) (x1 : Nat) (x2 : Int32) (x3 : Int32) (s0 : Int32) : Option Bool :=
  (if x3 = s0 then
    k2 x0 x1 (x2 + (1 : Int32))
  else
    some false)
set_option maxRecDepth 100000 in
set_option maxHeartbeats 4000000 in
theorem t_Sp_fits_54 {g : GG} {d : Nat} {ν : Nm} (hd0 : 1 ≤ d) {k2 : Int32 → Nat → Int32 → Option Bool} (hk2 : ∀ (x0 : Int32) (x1 : Nat) (x2 : Int32) (r : Bool), zk 333 x1 (8, 0) → k2 x0 x1 x2 = some r → Z g d (0, 0) mX8_fits 333 0 0 2 [(0, .int x0), (1, .ref x1), (2, .int x2)] [] (zem ν) (zF g (some (.int (b2i r)), zem ν))) : ∀ (x0 : Int32) (x1 : Nat) (x2 : Int32) (x3 : Int32) (s0 : Int32) (r : Bool), zk 333 x1 (8, 0) → Sp_fits_54 ν k2 x0 x1 x2 x3 s0 = some r → Z g d (0, 0) mX8_fits 333 0 0 54 [(0, .int x0), (1, .ref x1), (2, .int x2), (3, .int x3)] [.int s0] (zem ν) (zF g (some (.int (b2i r)), zem ν)) := by
  intro x0 x1 x2 x3 s0 r hq1 h
  unfold Sp_fits_54 at h
  refine z_istore (M := mX8_fits) (lv2 := [(4, .int s0), (0, .int x0), (1, .ref x1), (2, .int x2), (3, .int x3)]) dX8_fits_54 (Nat.le_of_ble_eq_true rfl) rfl ?_
  refine z_iload_n dX8_fits_56 4 rfl ?_
  refine z_iload dX8_fits_57 0 rfl ?_
  refine z_icmp_eq 64 dX8_fits_59 rfl (fun hc1 => ?_) (fun hc1 => ?_)
  · replace h := oT hc1 h
    refine z_iinc (M := mX8_fits) (v := (x2 + (1 : Int32))) (lv2 := [(2, .int (x2 + (1 : Int32))), (4, .int s0), (0, .int x0), (1, .ref x1), (3, .int x3)]) dX8_fits_64 3 rfl rfl (Nat.le_of_ble_eq_true rfl) rfl ?_
    refine z_goto 2 dX8_fits_67 rfl ?_
    refine z_lv (lv2 := [(0, .int x0), (1, .ref x1), (2, .int (x2 + (1 : Int32)))]) [2, 3, 0] rfl ?_
    exact hk2 x0 x1 (x2 + (1 : Int32)) _ hq1 h
  · replace h := oF hc1 h
    refine z_iconst (M := mX8_fits) (v := 0) dX8_fits_62 rfl ?_
    cases h
    exact z_zret dX8_fits_63 rfl rfl
def Sp_fits_35 (ν : Nm) (k2 : Int32 → Nat → Int32 → Option Bool) (x0 : Int32) (x1 : Nat) (x2 : Int32) (s0 : Int32) : Option Bool :=
  if inb x2 (tl x1) then
  (if (x0 &&& ((gi ν (x1 + 1) x2.toNatClampNeg) >>> ((1 : Int32) &&& 31))) = 0 then
    Sp_fits_54 ν k2 x0 x1 x2 s0 (0 : Int32)
  else
    Sp_fits_54 ν k2 x0 x1 x2 s0 (1 : Int32))
  else none
set_option maxRecDepth 100000 in
set_option maxHeartbeats 4000000 in
theorem t_Sp_fits_35 {g : GG} {d : Nat} {ν : Nm} (hd0 : 1 ≤ d) {k2 : Int32 → Nat → Int32 → Option Bool} (hk2 : ∀ (x0 : Int32) (x1 : Nat) (x2 : Int32) (r : Bool), zk 333 x1 (8, 0) → k2 x0 x1 x2 = some r → Z g d (0, 0) mX8_fits 333 0 0 2 [(0, .int x0), (1, .ref x1), (2, .int x2)] [] (zem ν) (zF g (some (.int (b2i r)), zem ν))) : ∀ (x0 : Int32) (x1 : Nat) (x2 : Int32) (s0 : Int32) (r : Bool), zk 333 x1 (8, 0) → Sp_fits_35 ν k2 x0 x1 x2 s0 = some r → Z g d (0, 0) mX8_fits 333 0 0 35 [(0, .int x0), (1, .ref x1), (2, .int x2)] [.int s0] (zem ν) (zF g (some (.int (b2i r)), zem ν)) := by
  intro x0 x1 x2 s0 r hq1 h
  unfold Sp_fits_35 at h
  refine z_istore_n (M := mX8_fits) (lv2 := [(3, .int s0), (0, .int x0), (1, .ref x1), (2, .int x2)]) dX8_fits_35 (Nat.le_of_ble_eq_true rfl) rfl ?_
  refine z_iload_n dX8_fits_36 1 rfl ?_
  refine z_aload_n dX8_fits_37 2 rfl ?_
  refine y_getR (M := mX8_fits) (r := (x1 + 1)) dX8_fits_38 hq1 flRX8_15 fr_8_0.1 (fr_8_0.2 _) ?_
  refine z_iload_n dX8_fits_41 3 rfl ?_
  obtain ⟨hi1, h⟩ := oif h
  refine y_iald (M := mX8_fits) (jj := x2.toNatClampNeg) dX8_fits_42 (zko_8_0 hq1) hi1 rfl ?_
  refine z_iconst (M := mX8_fits) (v := 1) dX8_fits_43 rfl ?_
  refine z_ishr dX8_fits_44 ?_
  refine z_iand dX8_fits_45 ?_
  refine z_if_eq 53 dX8_fits_46 rfl (fun hc2 => ?_) (fun hc2 => ?_)
  · replace h := oT hc2 h
    refine z_iconst (M := mX8_fits) (v := 0) dX8_fits_53 rfl ?_
    refine z_lv (lv2 := [(0, .int x0), (1, .ref x1), (2, .int x2), (3, .int s0)]) [1, 2, 3, 0] rfl ?_
    exact t_Sp_fits_54 hd0 hk2 x0 x1 x2 s0 (0 : Int32) _ hq1 h
  · replace h := oF hc2 h
    refine z_iconst (M := mX8_fits) (v := 1) dX8_fits_49 rfl ?_
    refine z_goto 54 dX8_fits_50 rfl ?_
    refine z_lv (lv2 := [(0, .int x0), (1, .ref x1), (2, .int x2), (3, .int s0)]) [1, 2, 3, 0] rfl ?_
    exact t_Sp_fits_54 hd0 hk2 x0 x1 x2 s0 (1 : Int32) _ hq1 h
def Sp_fits_2 (ν : Nm) : Nat → Int32 → Nat → Int32 → Option Bool
  | 0, _, _, _ => none
  | f + 1, x0, x1, x2 =>
    (if (gi ν x1 1) ≤ x2 then
      some true
    else
      (if (Int32.ofNat (tl x1)) ≤ x2 then
        some true
      else
        if inb x2 (tl x1) then
        (if ((gi ν (x1 + 1) x2.toNatClampNeg) &&& (1 : Int32)) = 0 then
          Sp_fits_35 ν (Sp_fits_2 ν f) x0 x1 x2 (0 : Int32)
        else
          Sp_fits_35 ν (Sp_fits_2 ν f) x0 x1 x2 (1 : Int32))
        else none))
set_option maxRecDepth 100000 in
set_option maxHeartbeats 4000000 in
theorem t_Sp_fits_2 {g : GG} {d : Nat} {ν : Nm} (hd0 : 1 ≤ d) : ∀ (f : Nat), ∀ (x0 : Int32) (x1 : Nat) (x2 : Int32) (r : Bool), zk 333 x1 (8, 0) → Sp_fits_2 ν f x0 x1 x2 = some r → Z g d (0, 0) mX8_fits 333 0 0 2 [(0, .int x0), (1, .ref x1), (2, .int x2)] [] (zem ν) (zF g (some (.int (b2i r)), zem ν)) := by
  intro f
  induction f with
  | zero =>
    intro x0 x1 x2 r hq1 h
    cases h
  | succ f ih =>
    intro x0 x1 x2 r hq1 h
    rw [Sp_fits_2] at h
    refine z_iload_n dX8_fits_2 2 rfl ?_
    refine z_aload_n dX8_fits_3 1 rfl ?_
    refine y_getI dX8_fits_4 hq1 flRX8_9 ?_
    refine z_icmp_ge 70 dX8_fits_7 rfl (fun hc1 => ?_) (fun hc1 => ?_)
    · replace h := oT hc1 h
      refine z_iconst (M := mX8_fits) (v := 1) dX8_fits_70 rfl ?_
      cases h
      exact z_zret dX8_fits_71 rfl rfl
    · replace h := oF hc1 h
      refine z_iload_n dX8_fits_10 2 rfl ?_
      refine z_aload_n dX8_fits_11 1 rfl ?_
      refine y_getR (M := mX8_fits) (r := (x1 + 1)) dX8_fits_12 hq1 flRX8_15 fr_8_0.1 (fr_8_0.2 _) ?_
      refine z_alen (M := mX8_fits) (v := (Int32.ofNat (tl x1))) dX8_fits_15 (zko_8_0 hq1) rfl ?_
      refine z_icmp_ge 70 dX8_fits_16 rfl (fun hc2 => ?_) (fun hc2 => ?_)
      · replace h := oT hc2 h
        refine z_iconst (M := mX8_fits) (v := 1) dX8_fits_70 rfl ?_
        cases h
        exact z_zret dX8_fits_71 rfl rfl
      · replace h := oF hc2 h
        refine z_aload_n dX8_fits_19 1 rfl ?_
        refine y_getR (M := mX8_fits) (r := (x1 + 1)) dX8_fits_20 hq1 flRX8_15 fr_8_0.1 (fr_8_0.2 _) ?_
        refine z_iload_n dX8_fits_23 2 rfl ?_
        obtain ⟨hi3, h⟩ := oif h
        refine y_iald (M := mX8_fits) (jj := x2.toNatClampNeg) dX8_fits_24 (zko_8_0 hq1) hi3 rfl ?_
        refine z_iconst (M := mX8_fits) (v := 1) dX8_fits_25 rfl ?_
        refine z_iand dX8_fits_26 ?_
        refine z_if_eq 34 dX8_fits_27 rfl (fun hc4 => ?_) (fun hc4 => ?_)
        · replace h := oT hc4 h
          refine z_iconst (M := mX8_fits) (v := 0) dX8_fits_34 rfl ?_
          exact t_Sp_fits_35 hd0 ih x0 x1 x2 (0 : Int32) _ hq1 h
        · replace h := oF hc4 h
          refine z_iconst (M := mX8_fits) (v := 1) dX8_fits_30 rfl ?_
          refine z_goto 35 dX8_fits_31 rfl ?_
          exact t_Sp_fits_35 hd0 ih x0 x1 x2 (1 : Int32) _ hq1 h
def Sp_fits (ν : Nm) (x0 : Int32) (x1 : Nat) : Option Bool :=
  Sp_fits_2 ν FU x0 x1 (0 : Int32)
set_option maxRecDepth 100000 in
set_option maxHeartbeats 4000000 in
theorem t_Sp_fits {g : GG} {d : Nat} {ν : Nm} (hd0 : 1 ≤ d) : ∀ (x0 : Int32) (x1 : Nat) (r : Bool), zk 333 x1 (8, 0) → Sp_fits ν x0 x1 = some r → Z g d (0, 0) mX8_fits 333 0 0 0 [(0, .int x0), (1, .ref x1)] [] (zem ν) (zF g (some (.int (b2i r)), zem ν)) := by
  intro x0 x1 r hq1 h
  unfold Sp_fits at h
  refine z_iconst (M := mX8_fits) (v := 0) dX8_fits_0 rfl ?_
  refine z_istore_n (M := mX8_fits) (lv2 := [(2, .int (0 : Int32)), (0, .int x0), (1, .ref x1)]) dX8_fits_1 (Nat.le_of_ble_eq_true rfl) rfl ?_
  refine z_lv (lv2 := [(0, .int x0), (1, .ref x1), (2, .int (0 : Int32))]) [1, 2, 0] rfl ?_
  exact t_Sp_fits_2 hd0 FU x0 x1 (0 : Int32) _ hq1 h
theorem ct_Sp_fits {g : GG} {d : Nat} {x0 : Int32} {x1 : Nat} {ν : Nm} {r : Bool} (hd0 : 1 ≤ d) (hq1 : zk 333 x1 (8, 0)) (h : Sp_fits ν x0 x1 = some r) : Ct g d mX8_fits [.int x0, .ref x1] (zem ν) (some (.int (b2i r)), zem ν) := y_entry in_X8_fits (Nat.le_of_ble_eq_true rfl) rfl (t_Sp_fits hd0 x0 x1 r hq1 h)
-- FuseMinutes$Suspects.inAll(II)I
theorem dX8_inAll_0 : decode cX8_inAll 0 = .ok (.iload_n 1, 1) := by decide +kernel
theorem dX8_inAll_1 : decode cX8_inAll 1 = .ok (.istore_n 2, 1) := by decide +kernel
theorem dX8_inAll_2 : decode cX8_inAll 2 = .ok (.iconst 0, 1) := by decide +kernel
theorem dX8_inAll_3 : decode cX8_inAll 3 = .ok (.istore_n 3, 1) := by decide +kernel
theorem dX8_inAll_4 : decode cX8_inAll 4 = .ok (.iload_n 3, 1) := by decide +kernel
theorem dX8_inAll_5 : decode cX8_inAll 5 = .ok (.bipush 16, 2) := by decide +kernel
theorem dX8_inAll_7 : decode cX8_inAll 7 = .ok (.if_icmp .ge 21, 3) := by decide +kernel
theorem dX8_inAll_10 : decode cX8_inAll 10 = .ok (.iload_n 0, 1) := by decide +kernel
theorem dX8_inAll_11 : decode cX8_inAll 11 = .ok (.iload_n 3, 1) := by decide +kernel
theorem dX8_inAll_12 : decode cX8_inAll 12 = .ok (.ishr, 1) := by decide +kernel
theorem dX8_inAll_13 : decode cX8_inAll 13 = .ok (.iconst 1, 1) := by decide +kernel
theorem dX8_inAll_14 : decode cX8_inAll 14 = .ok (.iand, 1) := by decide +kernel
theorem dX8_inAll_15 : decode cX8_inAll 15 = .ok (.ifCond .eq 7, 3) := by decide +kernel
theorem dX8_inAll_18 : decode cX8_inAll 18 = .ok (.iload_n 2, 1) := by decide +kernel
theorem dX8_inAll_19 : decode cX8_inAll 19 = .ok (.iload_n 3, 1) := by decide +kernel
theorem dX8_inAll_20 : decode cX8_inAll 20 = .ok (.iand, 1) := by decide +kernel
theorem dX8_inAll_21 : decode cX8_inAll 21 = .ok (.istore_n 2, 1) := by decide +kernel
theorem dX8_inAll_22 : decode cX8_inAll 22 = .ok (.iinc 3 1, 3) := by decide +kernel
theorem dX8_inAll_25 : decode cX8_inAll 25 = .ok (.goto (-21), 3) := by decide +kernel
theorem dX8_inAll_28 : decode cX8_inAll 28 = .ok (.iload_n 2, 1) := by decide +kernel
theorem dX8_inAll_29 : decode cX8_inAll 29 = .ok (.ireturn, 1) := by decide +kernel
def Sp_inAll_22 (k4 : Int32 → Int32 → Int32 → Option Int32) (x0 : Int32) (x2 : Int32) (x3 : Int32) : Option Int32 :=
  k4 x0 x2 (x3 + (1 : Int32))
set_option maxRecDepth 100000 in
set_option maxHeartbeats 4000000 in
theorem t_Sp_inAll_22 {g : GG} {d : Nat} {μ : Mm} (hd0 : 1 ≤ d) {k4 : Int32 → Int32 → Int32 → Option Int32} (hk4 : ∀ (x0 : Int32) (x2 : Int32) (x3 : Int32) (r : Int32), k4 x0 x2 x3 = some r → Z g d (0, 0) mX8_inAll 333 0 0 4 [(0, .int x0), (2, .int x2), (3, .int x3)] [] μ (zF g (some (.int r), μ))) : ∀ (x0 : Int32) (x2 : Int32) (x3 : Int32) (r : Int32), Sp_inAll_22 k4 x0 x2 x3 = some r → Z g d (0, 0) mX8_inAll 333 0 0 22 [(0, .int x0), (2, .int x2), (3, .int x3)] [] μ (zF g (some (.int r), μ)) := by
  intro x0 x2 x3 r h
  unfold Sp_inAll_22 at h
  refine z_iinc (M := mX8_inAll) (v := (x3 + (1 : Int32))) (lv2 := [(3, .int (x3 + (1 : Int32))), (0, .int x0), (2, .int x2)]) dX8_inAll_22 2 rfl rfl (Nat.le_of_ble_eq_true rfl) rfl ?_
  refine z_goto 4 dX8_inAll_25 rfl ?_
  refine z_lv (lv2 := [(0, .int x0), (2, .int x2), (3, .int (x3 + (1 : Int32)))]) [1, 2, 0] rfl ?_
  exact hk4 x0 x2 (x3 + (1 : Int32)) _ h
def Sp_inAll_4 : Nat → Int32 → Int32 → Int32 → Option Int32
  | 0, _, _, _ => none
  | f + 1, x0, x2, x3 =>
    (if (16 : Int32) ≤ x3 then
      some x2
    else
      (if ((x0 >>> (x3 &&& 31)) &&& (1 : Int32)) = 0 then
        Sp_inAll_22 (Sp_inAll_4 f) x0 x2 x3
      else
        Sp_inAll_22 (Sp_inAll_4 f) x0 (x2 &&& x3) x3))
set_option maxRecDepth 100000 in
set_option maxHeartbeats 4000000 in
theorem t_Sp_inAll_4 {g : GG} {d : Nat} {μ : Mm} (hd0 : 1 ≤ d) : ∀ (f : Nat), ∀ (x0 : Int32) (x2 : Int32) (x3 : Int32) (r : Int32), Sp_inAll_4 f x0 x2 x3 = some r → Z g d (0, 0) mX8_inAll 333 0 0 4 [(0, .int x0), (2, .int x2), (3, .int x3)] [] μ (zF g (some (.int r), μ)) := by
  intro f
  induction f with
  | zero =>
    intro x0 x2 x3 r h
    cases h
  | succ f ih =>
    intro x0 x2 x3 r h
    rw [Sp_inAll_4] at h
    refine z_iload_n dX8_inAll_4 2 rfl ?_
    refine z_bipush (M := mX8_inAll) (v := 16) dX8_inAll_5 rfl ?_
    refine z_icmp_ge 28 dX8_inAll_7 rfl (fun hc1 => ?_) (fun hc1 => ?_)
    · replace h := oT hc1 h
      refine z_iload_n dX8_inAll_28 1 rfl ?_
      cases h
      exact z_iret dX8_inAll_29 rfl
    · replace h := oF hc1 h
      refine z_iload_n dX8_inAll_10 0 rfl ?_
      refine z_iload_n dX8_inAll_11 2 rfl ?_
      refine z_ishr dX8_inAll_12 ?_
      refine z_iconst (M := mX8_inAll) (v := 1) dX8_inAll_13 rfl ?_
      refine z_iand dX8_inAll_14 ?_
      refine z_if_eq 22 dX8_inAll_15 rfl (fun hc2 => ?_) (fun hc2 => ?_)
      · replace h := oT hc2 h
        exact t_Sp_inAll_22 hd0 ih x0 x2 x3 _ h
      · replace h := oF hc2 h
        refine z_iload_n dX8_inAll_18 1 rfl ?_
        refine z_iload_n dX8_inAll_19 2 rfl ?_
        refine z_iand dX8_inAll_20 ?_
        refine z_istore_n (M := mX8_inAll) (lv2 := [(2, .int (x2 &&& x3)), (0, .int x0), (3, .int x3)]) dX8_inAll_21 (Nat.le_of_ble_eq_true rfl) rfl ?_
        refine z_lv (lv2 := [(0, .int x0), (2, .int (x2 &&& x3)), (3, .int x3)]) [1, 0, 2] rfl ?_
        exact t_Sp_inAll_22 hd0 ih x0 (x2 &&& x3) x3 _ h
def Sp_inAll (x0 : Int32) (x1 : Int32) : Option Int32 :=
  Sp_inAll_4 FU x0 x1 (0 : Int32)
set_option maxRecDepth 100000 in
set_option maxHeartbeats 4000000 in
theorem t_Sp_inAll {g : GG} {d : Nat} {μ : Mm} (hd0 : 1 ≤ d) : ∀ (x0 : Int32) (x1 : Int32) (r : Int32), Sp_inAll x0 x1 = some r → Z g d (0, 0) mX8_inAll 333 0 0 0 [(0, .int x0), (1, .int x1)] [] μ (zF g (some (.int r), μ)) := by
  intro x0 x1 r h
  unfold Sp_inAll at h
  refine z_iload_n dX8_inAll_0 1 rfl ?_
  refine z_istore_n (M := mX8_inAll) (lv2 := [(2, .int x1), (0, .int x0), (1, .int x1)]) dX8_inAll_1 (Nat.le_of_ble_eq_true rfl) rfl ?_
  refine z_iconst (M := mX8_inAll) (v := 0) dX8_inAll_2 rfl ?_
  refine z_istore_n (M := mX8_inAll) (lv2 := [(3, .int (0 : Int32)), (2, .int x1), (0, .int x0), (1, .int x1)]) dX8_inAll_3 (Nat.le_of_ble_eq_true rfl) rfl ?_
  refine z_lv (lv2 := [(0, .int x0), (2, .int x1), (3, .int (0 : Int32))]) [2, 1, 0] rfl ?_
  exact t_Sp_inAll_4 hd0 FU x0 x1 (0 : Int32) _ h
theorem ct_Sp_inAll {g : GG} {d : Nat} {x0 : Int32} {x1 : Int32} {μ : Mm} {r : Int32} (hd0 : 1 ≤ d)  (h : Sp_inAll x0 x1 = some r) : Ct g d mX8_inAll [.int x0, .int x1] μ (some (.int r), μ) := y_entry in_X8_inAll (Nat.le_of_ble_eq_true rfl) rfl (t_Sp_inAll hd0 x0 x1 r h)
-- FuseMinutes$Suspects.inNone(II)I
theorem dX8_inNone_0 : decode cX8_inNone 0 = .ok (.iload_n 1, 1) := by decide +kernel
theorem dX8_inNone_1 : decode cX8_inNone 1 = .ok (.istore_n 2, 1) := by decide +kernel
theorem dX8_inNone_2 : decode cX8_inNone 2 = .ok (.iconst 0, 1) := by decide +kernel
theorem dX8_inNone_3 : decode cX8_inNone 3 = .ok (.istore_n 3, 1) := by decide +kernel
theorem dX8_inNone_4 : decode cX8_inNone 4 = .ok (.iload_n 3, 1) := by decide +kernel
theorem dX8_inNone_5 : decode cX8_inNone 5 = .ok (.bipush 16, 2) := by decide +kernel
theorem dX8_inNone_7 : decode cX8_inNone 7 = .ok (.if_icmp .ge 23, 3) := by decide +kernel
theorem dX8_inNone_10 : decode cX8_inNone 10 = .ok (.iload_n 0, 1) := by decide +kernel
theorem dX8_inNone_11 : decode cX8_inNone 11 = .ok (.iload_n 3, 1) := by decide +kernel
theorem dX8_inNone_12 : decode cX8_inNone 12 = .ok (.ishr, 1) := by decide +kernel
theorem dX8_inNone_13 : decode cX8_inNone 13 = .ok (.iconst 1, 1) := by decide +kernel
theorem dX8_inNone_14 : decode cX8_inNone 14 = .ok (.iand, 1) := by decide +kernel
theorem dX8_inNone_15 : decode cX8_inNone 15 = .ok (.ifCond .eq 9, 3) := by decide +kernel
theorem dX8_inNone_18 : decode cX8_inNone 18 = .ok (.iload_n 2, 1) := by decide +kernel
theorem dX8_inNone_19 : decode cX8_inNone 19 = .ok (.iload_n 3, 1) := by decide +kernel
theorem dX8_inNone_20 : decode cX8_inNone 20 = .ok (.iconst (-1), 1) := by decide +kernel
theorem dX8_inNone_21 : decode cX8_inNone 21 = .ok (.ixor, 1) := by decide +kernel
theorem dX8_inNone_22 : decode cX8_inNone 22 = .ok (.iand, 1) := by decide +kernel
theorem dX8_inNone_23 : decode cX8_inNone 23 = .ok (.istore_n 2, 1) := by decide +kernel
theorem dX8_inNone_24 : decode cX8_inNone 24 = .ok (.iinc 3 1, 3) := by decide +kernel
theorem dX8_inNone_27 : decode cX8_inNone 27 = .ok (.goto (-23), 3) := by decide +kernel
theorem dX8_inNone_30 : decode cX8_inNone 30 = .ok (.iload_n 2, 1) := by decide +kernel
theorem dX8_inNone_31 : decode cX8_inNone 31 = .ok (.ireturn, 1) := by decide +kernel
def Sp_inNone_24 (k4 : Int32 → Int32 → Int32 → Option Int32) (x0 : Int32) (x2 : Int32) (x3 : Int32) : Option Int32 :=
  k4 x0 x2 (x3 + (1 : Int32))
set_option maxRecDepth 100000 in
set_option maxHeartbeats 4000000 in
theorem t_Sp_inNone_24 {g : GG} {d : Nat} {μ : Mm} (hd0 : 1 ≤ d) {k4 : Int32 → Int32 → Int32 → Option Int32} (hk4 : ∀ (x0 : Int32) (x2 : Int32) (x3 : Int32) (r : Int32), k4 x0 x2 x3 = some r → Z g d (0, 0) mX8_inNone 333 0 0 4 [(0, .int x0), (2, .int x2), (3, .int x3)] [] μ (zF g (some (.int r), μ))) : ∀ (x0 : Int32) (x2 : Int32) (x3 : Int32) (r : Int32), Sp_inNone_24 k4 x0 x2 x3 = some r → Z g d (0, 0) mX8_inNone 333 0 0 24 [(0, .int x0), (2, .int x2), (3, .int x3)] [] μ (zF g (some (.int r), μ)) := by
  intro x0 x2 x3 r h
  unfold Sp_inNone_24 at h
  refine z_iinc (M := mX8_inNone) (v := (x3 + (1 : Int32))) (lv2 := [(3, .int (x3 + (1 : Int32))), (0, .int x0), (2, .int x2)]) dX8_inNone_24 2 rfl rfl (Nat.le_of_ble_eq_true rfl) rfl ?_
  refine z_goto 4 dX8_inNone_27 rfl ?_
  refine z_lv (lv2 := [(0, .int x0), (2, .int x2), (3, .int (x3 + (1 : Int32)))]) [1, 2, 0] rfl ?_
  exact hk4 x0 x2 (x3 + (1 : Int32)) _ h
def Sp_inNone_4 : Nat → Int32 → Int32 → Int32 → Option Int32
  | 0, _, _, _ => none
  | f + 1, x0, x2, x3 =>
    (if (16 : Int32) ≤ x3 then
      some x2
    else
      (if ((x0 >>> (x3 &&& 31)) &&& (1 : Int32)) = 0 then
        Sp_inNone_24 (Sp_inNone_4 f) x0 x2 x3
      else
        Sp_inNone_24 (Sp_inNone_4 f) x0 (x2 &&& (x3 ^^^ (-1 : Int32))) x3))
set_option maxRecDepth 100000 in
set_option maxHeartbeats 4000000 in
theorem t_Sp_inNone_4 {g : GG} {d : Nat} {μ : Mm} (hd0 : 1 ≤ d) : ∀ (f : Nat), ∀ (x0 : Int32) (x2 : Int32) (x3 : Int32) (r : Int32), Sp_inNone_4 f x0 x2 x3 = some r → Z g d (0, 0) mX8_inNone 333 0 0 4 [(0, .int x0), (2, .int x2), (3, .int x3)] [] μ (zF g (some (.int r), μ)) := by
  intro f
  induction f with
  | zero =>
    intro x0 x2 x3 r h
    cases h
  | succ f ih =>
    intro x0 x2 x3 r h
    rw [Sp_inNone_4] at h
    refine z_iload_n dX8_inNone_4 2 rfl ?_
    refine z_bipush (M := mX8_inNone) (v := 16) dX8_inNone_5 rfl ?_
    refine z_icmp_ge 30 dX8_inNone_7 rfl (fun hc1 => ?_) (fun hc1 => ?_)
    · replace h := oT hc1 h
      refine z_iload_n dX8_inNone_30 1 rfl ?_
      cases h
      exact z_iret dX8_inNone_31 rfl
    · replace h := oF hc1 h
      refine z_iload_n dX8_inNone_10 0 rfl ?_
      refine z_iload_n dX8_inNone_11 2 rfl ?_
      refine z_ishr dX8_inNone_12 ?_
      refine z_iconst (M := mX8_inNone) (v := 1) dX8_inNone_13 rfl ?_
      refine z_iand dX8_inNone_14 ?_
      refine z_if_eq 24 dX8_inNone_15 rfl (fun hc2 => ?_) (fun hc2 => ?_)
      · replace h := oT hc2 h
        exact t_Sp_inNone_24 hd0 ih x0 x2 x3 _ h
      · replace h := oF hc2 h
        refine z_iload_n dX8_inNone_18 1 rfl ?_
        refine z_iload_n dX8_inNone_19 2 rfl ?_
        refine z_iconst (M := mX8_inNone) (v := -1) dX8_inNone_20 rfl ?_
        refine z_ixor dX8_inNone_21 ?_
        refine z_iand dX8_inNone_22 ?_
        refine z_istore_n (M := mX8_inNone) (lv2 := [(2, .int (x2 &&& (x3 ^^^ (-1 : Int32)))), (0, .int x0), (3, .int x3)]) dX8_inNone_23 (Nat.le_of_ble_eq_true rfl) rfl ?_
        refine z_lv (lv2 := [(0, .int x0), (2, .int (x2 &&& (x3 ^^^ (-1 : Int32)))), (3, .int x3)]) [1, 0, 2] rfl ?_
        exact t_Sp_inNone_24 hd0 ih x0 (x2 &&& (x3 ^^^ (-1 : Int32))) x3 _ h
def Sp_inNone (x0 : Int32) (x1 : Int32) : Option Int32 :=
  Sp_inNone_4 FU x0 x1 (0 : Int32)
set_option maxRecDepth 100000 in
set_option maxHeartbeats 4000000 in
theorem t_Sp_inNone {g : GG} {d : Nat} {μ : Mm} (hd0 : 1 ≤ d) : ∀ (x0 : Int32) (x1 : Int32) (r : Int32), Sp_inNone x0 x1 = some r → Z g d (0, 0) mX8_inNone 333 0 0 0 [(0, .int x0), (1, .int x1)] [] μ (zF g (some (.int r), μ)) := by
  intro x0 x1 r h
  unfold Sp_inNone at h
  refine z_iload_n dX8_inNone_0 1 rfl ?_
  refine z_istore_n (M := mX8_inNone) (lv2 := [(2, .int x1), (0, .int x0), (1, .int x1)]) dX8_inNone_1 (Nat.le_of_ble_eq_true rfl) rfl ?_
  refine z_iconst (M := mX8_inNone) (v := 0) dX8_inNone_2 rfl ?_
  refine z_istore_n (M := mX8_inNone) (lv2 := [(3, .int (0 : Int32)), (2, .int x1), (0, .int x0), (1, .int x1)]) dX8_inNone_3 (Nat.le_of_ble_eq_true rfl) rfl ?_
  refine z_lv (lv2 := [(0, .int x0), (2, .int x1), (3, .int (0 : Int32))]) [2, 1, 0] rfl ?_
  exact t_Sp_inNone_4 hd0 FU x0 x1 (0 : Int32) _ h
theorem ct_Sp_inNone {g : GG} {d : Nat} {x0 : Int32} {x1 : Int32} {μ : Mm} {r : Int32} (hd0 : 1 ≤ d)  (h : Sp_inNone x0 x1 = some r) : Ct g d mX8_inNone [.int x0, .int x1] μ (some (.int r), μ) := y_entry in_X8_inNone (Nat.le_of_ble_eq_true rfl) rfl (t_Sp_inNone hd0 x0 x1 r h)
-- FuseMinutes$Suspects.lowest(I)I
theorem dX8_lowest_0 : decode cX8_lowest 0 = .ok (.iconst 0, 1) := by decide +kernel
theorem dX8_lowest_1 : decode cX8_lowest 1 = .ok (.istore_n 1, 1) := by decide +kernel
theorem dX8_lowest_2 : decode cX8_lowest 2 = .ok (.iload_n 1, 1) := by decide +kernel
theorem dX8_lowest_3 : decode cX8_lowest 3 = .ok (.bipush 16, 2) := by decide +kernel
theorem dX8_lowest_5 : decode cX8_lowest 5 = .ok (.if_icmp .ge 19, 3) := by decide +kernel
theorem dX8_lowest_8 : decode cX8_lowest 8 = .ok (.iload_n 0, 1) := by decide +kernel
theorem dX8_lowest_9 : decode cX8_lowest 9 = .ok (.iload_n 1, 1) := by decide +kernel
theorem dX8_lowest_10 : decode cX8_lowest 10 = .ok (.ishr, 1) := by decide +kernel
theorem dX8_lowest_11 : decode cX8_lowest 11 = .ok (.iconst 1, 1) := by decide +kernel
theorem dX8_lowest_12 : decode cX8_lowest 12 = .ok (.iand, 1) := by decide +kernel
theorem dX8_lowest_13 : decode cX8_lowest 13 = .ok (.ifCond .eq 5, 3) := by decide +kernel
theorem dX8_lowest_16 : decode cX8_lowest 16 = .ok (.iload_n 1, 1) := by decide +kernel
theorem dX8_lowest_17 : decode cX8_lowest 17 = .ok (.ireturn, 1) := by decide +kernel
theorem dX8_lowest_18 : decode cX8_lowest 18 = .ok (.iinc 1 1, 3) := by decide +kernel
theorem dX8_lowest_21 : decode cX8_lowest 21 = .ok (.goto (-19), 3) := by decide +kernel
theorem dX8_lowest_24 : decode cX8_lowest 24 = .ok (.iconst (-1), 1) := by decide +kernel
theorem dX8_lowest_25 : decode cX8_lowest 25 = .ok (.ireturn, 1) := by decide +kernel
def Sp_lowest_2 : Nat → Int32 → Int32 → Option Int32
  | 0, _, _ => none
  | f + 1, x0, x1 =>
    (if (16 : Int32) ≤ x1 then
      some (-1 : Int32)
    else
      (if ((x0 >>> (x1 &&& 31)) &&& (1 : Int32)) = 0 then
        (Sp_lowest_2 f) x0 (x1 + (1 : Int32))
      else
        some x1))
set_option maxRecDepth 100000 in
set_option maxHeartbeats 4000000 in
theorem t_Sp_lowest_2 {g : GG} {d : Nat} {μ : Mm} (hd0 : 1 ≤ d) : ∀ (f : Nat), ∀ (x0 : Int32) (x1 : Int32) (r : Int32), Sp_lowest_2 f x0 x1 = some r → Z g d (0, 0) mX8_lowest 333 0 0 2 [(0, .int x0), (1, .int x1)] [] μ (zF g (some (.int r), μ)) := by
  intro f
  induction f with
  | zero =>
    intro x0 x1 r h
    cases h
  | succ f ih =>
    intro x0 x1 r h
    rw [Sp_lowest_2] at h
    refine z_iload_n dX8_lowest_2 1 rfl ?_
    refine z_bipush (M := mX8_lowest) (v := 16) dX8_lowest_3 rfl ?_
    refine z_icmp_ge 24 dX8_lowest_5 rfl (fun hc1 => ?_) (fun hc1 => ?_)
    · replace h := oT hc1 h
      refine z_iconst (M := mX8_lowest) (v := -1) dX8_lowest_24 rfl ?_
      cases h
      exact z_iret dX8_lowest_25 rfl
    · replace h := oF hc1 h
      refine z_iload_n dX8_lowest_8 0 rfl ?_
      refine z_iload_n dX8_lowest_9 1 rfl ?_
      refine z_ishr dX8_lowest_10 ?_
      refine z_iconst (M := mX8_lowest) (v := 1) dX8_lowest_11 rfl ?_
      refine z_iand dX8_lowest_12 ?_
      refine z_if_eq 18 dX8_lowest_13 rfl (fun hc2 => ?_) (fun hc2 => ?_)
      · replace h := oT hc2 h
        refine z_iinc (M := mX8_lowest) (v := (x1 + (1 : Int32))) (lv2 := [(1, .int (x1 + (1 : Int32))), (0, .int x0)]) dX8_lowest_18 1 rfl rfl (Nat.le_of_ble_eq_true rfl) rfl ?_
        refine z_goto 2 dX8_lowest_21 rfl ?_
        refine z_lv (lv2 := [(0, .int x0), (1, .int (x1 + (1 : Int32)))]) [1, 0] rfl ?_
        exact ih x0 (x1 + (1 : Int32)) _ h
      · replace h := oF hc2 h
        refine z_iload_n dX8_lowest_16 1 rfl ?_
        cases h
        exact z_iret dX8_lowest_17 rfl
def Sp_lowest (x0 : Int32) : Option Int32 :=
  Sp_lowest_2 FU x0 (0 : Int32)
set_option maxRecDepth 100000 in
set_option maxHeartbeats 4000000 in
theorem t_Sp_lowest {g : GG} {d : Nat} {μ : Mm} (hd0 : 1 ≤ d) : ∀ (x0 : Int32) (r : Int32), Sp_lowest x0 = some r → Z g d (0, 0) mX8_lowest 333 0 0 0 [(0, .int x0)] [] μ (zF g (some (.int r), μ)) := by
  intro x0 r h
  unfold Sp_lowest at h
  refine z_iconst (M := mX8_lowest) (v := 0) dX8_lowest_0 rfl ?_
  refine z_istore_n (M := mX8_lowest) (lv2 := [(1, .int (0 : Int32)), (0, .int x0)]) dX8_lowest_1 (Nat.le_of_ble_eq_true rfl) rfl ?_
  refine z_lv (lv2 := [(0, .int x0), (1, .int (0 : Int32))]) [1, 0] rfl ?_
  exact t_Sp_lowest_2 hd0 FU x0 (0 : Int32) _ h
theorem ct_Sp_lowest {g : GG} {d : Nat} {x0 : Int32} {μ : Mm} {r : Int32} (hd0 : 1 ≤ d)  (h : Sp_lowest x0 = some r) : Ct g d mX8_lowest [.int x0] μ (some (.int r), μ) := y_entry in_X8_lowest (Nat.le_of_ble_eq_true rfl) rfl (t_Sp_lowest hd0 x0 r h)
-- FuseMinutes$Suspects.countFailing(II)I
theorem dX8_countFailing_0 : decode cX8_countFailing 0 = .ok (.iconst 0, 1) := by decide +kernel
theorem dX8_countFailing_1 : decode cX8_countFailing 1 = .ok (.istore_n 2, 1) := by decide +kernel
theorem dX8_countFailing_2 : decode cX8_countFailing 2 = .ok (.iconst 0, 1) := by decide +kernel
theorem dX8_countFailing_3 : decode cX8_countFailing 3 = .ok (.istore_n 3, 1) := by decide +kernel
theorem dX8_countFailing_4 : decode cX8_countFailing 4 = .ok (.iload_n 3, 1) := by decide +kernel
theorem dX8_countFailing_5 : decode cX8_countFailing 5 = .ok (.bipush 16, 2) := by decide +kernel
theorem dX8_countFailing_7 : decode cX8_countFailing 7 = .ok (.if_icmp .ge 26, 3) := by decide +kernel
theorem dX8_countFailing_10 : decode cX8_countFailing 10 = .ok (.iload_n 0, 1) := by decide +kernel
theorem dX8_countFailing_11 : decode cX8_countFailing 11 = .ok (.iload_n 3, 1) := by decide +kernel
theorem dX8_countFailing_12 : decode cX8_countFailing 12 = .ok (.ishr, 1) := by decide +kernel
theorem dX8_countFailing_13 : decode cX8_countFailing 13 = .ok (.iconst 1, 1) := by decide +kernel
theorem dX8_countFailing_14 : decode cX8_countFailing 14 = .ok (.iand, 1) := by decide +kernel
theorem dX8_countFailing_15 : decode cX8_countFailing 15 = .ok (.ifCond .eq 12, 3) := by decide +kernel
theorem dX8_countFailing_18 : decode cX8_countFailing 18 = .ok (.iload_n 3, 1) := by decide +kernel
theorem dX8_countFailing_19 : decode cX8_countFailing 19 = .ok (.iload_n 1, 1) := by decide +kernel
theorem dX8_countFailing_20 : decode cX8_countFailing 20 = .ok (.iand, 1) := by decide +kernel
theorem dX8_countFailing_21 : decode cX8_countFailing 21 = .ok (.ifCond .eq 6, 3) := by decide +kernel
theorem dX8_countFailing_24 : decode cX8_countFailing 24 = .ok (.iinc 2 1, 3) := by decide +kernel
theorem dX8_countFailing_27 : decode cX8_countFailing 27 = .ok (.iinc 3 1, 3) := by decide +kernel
theorem dX8_countFailing_30 : decode cX8_countFailing 30 = .ok (.goto (-26), 3) := by decide +kernel
theorem dX8_countFailing_33 : decode cX8_countFailing 33 = .ok (.iload_n 2, 1) := by decide +kernel
theorem dX8_countFailing_34 : decode cX8_countFailing 34 = .ok (.ireturn, 1) := by decide +kernel
def Sp_countFailing_27 (k4 : Int32 → Int32 → Int32 → Int32 → Option Int32) (x0 : Int32) (x1 : Int32) (x2 : Int32) (x3 : Int32) : Option Int32 :=
  k4 x0 x1 x2 (x3 + (1 : Int32))
set_option maxRecDepth 100000 in
set_option maxHeartbeats 4000000 in
theorem t_Sp_countFailing_27 {g : GG} {d : Nat} {μ : Mm} (hd0 : 1 ≤ d) {k4 : Int32 → Int32 → Int32 → Int32 → Option Int32} (hk4 : ∀ (x0 : Int32) (x1 : Int32) (x2 : Int32) (x3 : Int32) (r : Int32), k4 x0 x1 x2 x3 = some r → Z g d (0, 0) mX8_countFailing 333 0 0 4 [(0, .int x0), (1, .int x1), (2, .int x2), (3, .int x3)] [] μ (zF g (some (.int r), μ))) : ∀ (x0 : Int32) (x1 : Int32) (x2 : Int32) (x3 : Int32) (r : Int32), Sp_countFailing_27 k4 x0 x1 x2 x3 = some r → Z g d (0, 0) mX8_countFailing 333 0 0 27 [(0, .int x0), (1, .int x1), (2, .int x2), (3, .int x3)] [] μ (zF g (some (.int r), μ)) := by
  intro x0 x1 x2 x3 r h
  unfold Sp_countFailing_27 at h
  refine z_iinc (M := mX8_countFailing) (v := (x3 + (1 : Int32))) (lv2 := [(3, .int (x3 + (1 : Int32))), (0, .int x0), (1, .int x1), (2, .int x2)]) dX8_countFailing_27 3 rfl rfl (Nat.le_of_ble_eq_true rfl) rfl ?_
  refine z_goto 4 dX8_countFailing_30 rfl ?_
  refine z_lv (lv2 := [(0, .int x0), (1, .int x1), (2, .int x2), (3, .int (x3 + (1 : Int32)))]) [1, 2, 3, 0] rfl ?_
  exact hk4 x0 x1 x2 (x3 + (1 : Int32)) _ h
def Sp_countFailing_4 : Nat → Int32 → Int32 → Int32 → Int32 → Option Int32
  | 0, _, _, _, _ => none
  | f + 1, x0, x1, x2, x3 =>
    (if (16 : Int32) ≤ x3 then
      some x2
    else
      (if ((x0 >>> (x3 &&& 31)) &&& (1 : Int32)) = 0 then
        Sp_countFailing_27 (Sp_countFailing_4 f) x0 x1 x2 x3
      else
        (if (x3 &&& x1) = 0 then
          Sp_countFailing_27 (Sp_countFailing_4 f) x0 x1 x2 x3
        else
          Sp_countFailing_27 (Sp_countFailing_4 f) x0 x1 (x2 + (1 : Int32)) x3)))
set_option maxRecDepth 100000 in
set_option maxHeartbeats 4000000 in
theorem t_Sp_countFailing_4 {g : GG} {d : Nat} {μ : Mm} (hd0 : 1 ≤ d) : ∀ (f : Nat), ∀ (x0 : Int32) (x1 : Int32) (x2 : Int32) (x3 : Int32) (r : Int32), Sp_countFailing_4 f x0 x1 x2 x3 = some r → Z g d (0, 0) mX8_countFailing 333 0 0 4 [(0, .int x0), (1, .int x1), (2, .int x2), (3, .int x3)] [] μ (zF g (some (.int r), μ)) := by
  intro f
  induction f with
  | zero =>
    intro x0 x1 x2 x3 r h
    cases h
  | succ f ih =>
    intro x0 x1 x2 x3 r h
    rw [Sp_countFailing_4] at h
    refine z_iload_n dX8_countFailing_4 3 rfl ?_
    refine z_bipush (M := mX8_countFailing) (v := 16) dX8_countFailing_5 rfl ?_
    refine z_icmp_ge 33 dX8_countFailing_7 rfl (fun hc1 => ?_) (fun hc1 => ?_)
    · replace h := oT hc1 h
      refine z_iload_n dX8_countFailing_33 2 rfl ?_
      cases h
      exact z_iret dX8_countFailing_34 rfl
    · replace h := oF hc1 h
      refine z_iload_n dX8_countFailing_10 0 rfl ?_
      refine z_iload_n dX8_countFailing_11 3 rfl ?_
      refine z_ishr dX8_countFailing_12 ?_
      refine z_iconst (M := mX8_countFailing) (v := 1) dX8_countFailing_13 rfl ?_
      refine z_iand dX8_countFailing_14 ?_
      refine z_if_eq 27 dX8_countFailing_15 rfl (fun hc2 => ?_) (fun hc2 => ?_)
      · replace h := oT hc2 h
        exact t_Sp_countFailing_27 hd0 ih x0 x1 x2 x3 _ h
      · replace h := oF hc2 h
        refine z_iload_n dX8_countFailing_18 3 rfl ?_
        refine z_iload_n dX8_countFailing_19 1 rfl ?_
        refine z_iand dX8_countFailing_20 ?_
        refine z_if_eq 27 dX8_countFailing_21 rfl (fun hc3 => ?_) (fun hc3 => ?_)
        · replace h := oT hc3 h
          exact t_Sp_countFailing_27 hd0 ih x0 x1 x2 x3 _ h
        · replace h := oF hc3 h
          refine z_iinc (M := mX8_countFailing) (v := (x2 + (1 : Int32))) (lv2 := [(2, .int (x2 + (1 : Int32))), (0, .int x0), (1, .int x1), (3, .int x3)]) dX8_countFailing_24 2 rfl rfl (Nat.le_of_ble_eq_true rfl) rfl ?_
          refine z_lv (lv2 := [(0, .int x0), (1, .int x1), (2, .int (x2 + (1 : Int32))), (3, .int x3)]) [1, 2, 0, 3] rfl ?_
          exact t_Sp_countFailing_27 hd0 ih x0 x1 (x2 + (1 : Int32)) x3 _ h
def Sp_countFailing (x0 : Int32) (x1 : Int32) : Option Int32 :=
  Sp_countFailing_4 FU x0 x1 (0 : Int32) (0 : Int32)
set_option maxRecDepth 100000 in
set_option maxHeartbeats 4000000 in
theorem t_Sp_countFailing {g : GG} {d : Nat} {μ : Mm} (hd0 : 1 ≤ d) : ∀ (x0 : Int32) (x1 : Int32) (r : Int32), Sp_countFailing x0 x1 = some r → Z g d (0, 0) mX8_countFailing 333 0 0 0 [(0, .int x0), (1, .int x1)] [] μ (zF g (some (.int r), μ)) := by
  intro x0 x1 r h
  unfold Sp_countFailing at h
  refine z_iconst (M := mX8_countFailing) (v := 0) dX8_countFailing_0 rfl ?_
  refine z_istore_n (M := mX8_countFailing) (lv2 := [(2, .int (0 : Int32)), (0, .int x0), (1, .int x1)]) dX8_countFailing_1 (Nat.le_of_ble_eq_true rfl) rfl ?_
  refine z_iconst (M := mX8_countFailing) (v := 0) dX8_countFailing_2 rfl ?_
  refine z_istore_n (M := mX8_countFailing) (lv2 := [(3, .int (0 : Int32)), (2, .int (0 : Int32)), (0, .int x0), (1, .int x1)]) dX8_countFailing_3 (Nat.le_of_ble_eq_true rfl) rfl ?_
  refine z_lv (lv2 := [(0, .int x0), (1, .int x1), (2, .int (0 : Int32)), (3, .int (0 : Int32))]) [2, 3, 1, 0] rfl ?_
  exact t_Sp_countFailing_4 hd0 FU x0 x1 (0 : Int32) (0 : Int32) _ h
theorem ct_Sp_countFailing {g : GG} {d : Nat} {x0 : Int32} {x1 : Int32} {μ : Mm} {r : Int32} (hd0 : 1 ≤ d)  (h : Sp_countFailing x0 x1 = some r) : Ct g d mX8_countFailing [.int x0, .int x1] μ (some (.int r), μ) := y_entry in_X8_countFailing (Nat.le_of_ble_eq_true rfl) rfl (t_Sp_countFailing hd0 x0 x1 r h)
-- FuseMinutes$Suspects.bestTrial(II)I
theorem dX8_bestTrial_0 : decode cX8_bestTrial 0 = .ok (.iconst (-1), 1) := by decide +kernel
theorem dX8_bestTrial_1 : decode cX8_bestTrial 1 = .ok (.istore_n 2, 1) := by decide +kernel
theorem dX8_bestTrial_2 : decode cX8_bestTrial 2 = .ok (.iconst 0, 1) := by decide +kernel
theorem dX8_bestTrial_3 : decode cX8_bestTrial 3 = .ok (.istore_n 3, 1) := by decide +kernel
theorem dX8_bestTrial_4 : decode cX8_bestTrial 4 = .ok (.iconst 1, 1) := by decide +kernel
theorem dX8_bestTrial_5 : decode cX8_bestTrial 5 = .ok (.istore 4, 2) := by decide +kernel
theorem dX8_bestTrial_7 : decode cX8_bestTrial 7 = .ok (.iload 4, 2) := by decide +kernel
theorem dX8_bestTrial_9 : decode cX8_bestTrial 9 = .ok (.iload_n 1, 1) := by decide +kernel
theorem dX8_bestTrial_10 : decode cX8_bestTrial 10 = .ok (.if_icmp .gt 48, 3) := by decide +kernel
theorem dX8_bestTrial_13 : decode cX8_bestTrial 13 = .ok (.iload_n 0, 1) := by decide +kernel
theorem dX8_bestTrial_14 : decode cX8_bestTrial 14 = .ok (.iload 4, 2) := by decide +kernel
theorem dX8_bestTrial_16 : decode cX8_bestTrial 16 = .ok (.invokestatic 19, 3) := by decide +kernel
theorem dX8_bestTrial_19 : decode cX8_bestTrial 19 = .ok (.istore 5, 2) := by decide +kernel
theorem dX8_bestTrial_21 : decode cX8_bestTrial 21 = .ok (.iload 5, 2) := by decide +kernel
theorem dX8_bestTrial_23 : decode cX8_bestTrial 23 = .ok (.iload_n 0, 1) := by decide +kernel
theorem dX8_bestTrial_24 : decode cX8_bestTrial 24 = .ok (.invokestatic 25, 3) := by decide +kernel
theorem dX8_bestTrial_27 : decode cX8_bestTrial 27 = .ok (.iload 5, 2) := by decide +kernel
theorem dX8_bestTrial_29 : decode cX8_bestTrial 29 = .ok (.isub, 1) := by decide +kernel
theorem dX8_bestTrial_30 : decode cX8_bestTrial 30 = .ok (.invokestatic 31, 3) := by decide +kernel
theorem dX8_bestTrial_33 : decode cX8_bestTrial 33 = .ok (.istore 6, 2) := by decide +kernel
theorem dX8_bestTrial_35 : decode cX8_bestTrial 35 = .ok (.iload_n 2, 1) := by decide +kernel
theorem dX8_bestTrial_36 : decode cX8_bestTrial 36 = .ok (.iconst (-1), 1) := by decide +kernel
theorem dX8_bestTrial_37 : decode cX8_bestTrial 37 = .ok (.if_icmp .eq 9, 3) := by decide +kernel
theorem dX8_bestTrial_40 : decode cX8_bestTrial 40 = .ok (.iload 6, 2) := by decide +kernel
theorem dX8_bestTrial_42 : decode cX8_bestTrial 42 = .ok (.iload_n 3, 1) := by decide +kernel
theorem dX8_bestTrial_43 : decode cX8_bestTrial 43 = .ok (.if_icmp .ge 9, 3) := by decide +kernel
theorem dX8_bestTrial_46 : decode cX8_bestTrial 46 = .ok (.iload 4, 2) := by decide +kernel
theorem dX8_bestTrial_48 : decode cX8_bestTrial 48 = .ok (.istore_n 2, 1) := by decide +kernel
theorem dX8_bestTrial_49 : decode cX8_bestTrial 49 = .ok (.iload 6, 2) := by decide +kernel
theorem dX8_bestTrial_51 : decode cX8_bestTrial 51 = .ok (.istore_n 3, 1) := by decide +kernel
theorem dX8_bestTrial_52 : decode cX8_bestTrial 52 = .ok (.iinc 4 1, 3) := by decide +kernel
theorem dX8_bestTrial_55 : decode cX8_bestTrial 55 = .ok (.goto (-48), 3) := by decide +kernel
theorem dX8_bestTrial_58 : decode cX8_bestTrial 58 = .ok (.iload_n 2, 1) := by decide +kernel
theorem dX8_bestTrial_59 : decode cX8_bestTrial 59 = .ok (.ireturn, 1) := by decide +kernel
def Sp_bestTrial_52 (k7 : Int32 → Int32 → Int32 → Int32 → Int32 → Option Int32) (x0 : Int32) (x1 : Int32) (x2 : Int32) (x3 : Int32) (x4 : Int32) : Option Int32 :=
  k7 x0 x1 x2 x3 (x4 + (1 : Int32))
set_option maxRecDepth 100000 in
set_option maxHeartbeats 4000000 in
theorem t_Sp_bestTrial_52 {g : GG} {d : Nat} {μ : Mm} (hd0 : 2 ≤ d) {k7 : Int32 → Int32 → Int32 → Int32 → Int32 → Option Int32} (hk7 : ∀ (x0 : Int32) (x1 : Int32) (x2 : Int32) (x3 : Int32) (x4 : Int32) (r : Int32), k7 x0 x1 x2 x3 x4 = some r → Z g d (0, 0) mX8_bestTrial 333 0 0 7 [(0, .int x0), (1, .int x1), (2, .int x2), (3, .int x3), (4, .int x4)] [] μ (zF g (some (.int r), μ))) : ∀ (x0 : Int32) (x1 : Int32) (x2 : Int32) (x3 : Int32) (x4 : Int32) (r : Int32), Sp_bestTrial_52 k7 x0 x1 x2 x3 x4 = some r → Z g d (0, 0) mX8_bestTrial 333 0 0 52 [(0, .int x0), (1, .int x1), (2, .int x2), (3, .int x3), (4, .int x4)] [] μ (zF g (some (.int r), μ)) := by
  intro x0 x1 x2 x3 x4 r h
  unfold Sp_bestTrial_52 at h
  refine z_iinc (M := mX8_bestTrial) (v := (x4 + (1 : Int32))) (lv2 := [(4, .int (x4 + (1 : Int32))), (0, .int x0), (1, .int x1), (2, .int x2), (3, .int x3)]) dX8_bestTrial_52 4 rfl rfl (Nat.le_of_ble_eq_true rfl) rfl ?_
  refine z_goto 7 dX8_bestTrial_55 rfl ?_
  refine z_lv (lv2 := [(0, .int x0), (1, .int x1), (2, .int x2), (3, .int x3), (4, .int (x4 + (1 : Int32)))]) [1, 2, 3, 4, 0] rfl ?_
  exact hk7 x0 x1 x2 x3 (x4 + (1 : Int32)) _ h
def Sp_bestTrial_46 (k7 : Int32 → Int32 → Int32 → Int32 → Int32 → Option Int32) (x0 : Int32) (x1 : Int32) (x4 : Int32) (x6 : Int32) : Option Int32 :=
  Sp_bestTrial_52 k7 x0 x1 x4 x6 x4
set_option maxRecDepth 100000 in
set_option maxHeartbeats 4000000 in
theorem t_Sp_bestTrial_46 {g : GG} {d : Nat} {μ : Mm} (hd0 : 2 ≤ d) {k7 : Int32 → Int32 → Int32 → Int32 → Int32 → Option Int32} (hk7 : ∀ (x0 : Int32) (x1 : Int32) (x2 : Int32) (x3 : Int32) (x4 : Int32) (r : Int32), k7 x0 x1 x2 x3 x4 = some r → Z g d (0, 0) mX8_bestTrial 333 0 0 7 [(0, .int x0), (1, .int x1), (2, .int x2), (3, .int x3), (4, .int x4)] [] μ (zF g (some (.int r), μ))) : ∀ (x0 : Int32) (x1 : Int32) (x4 : Int32) (x6 : Int32) (r : Int32), Sp_bestTrial_46 k7 x0 x1 x4 x6 = some r → Z g d (0, 0) mX8_bestTrial 333 0 0 46 [(0, .int x0), (1, .int x1), (4, .int x4), (6, .int x6)] [] μ (zF g (some (.int r), μ)) := by
  intro x0 x1 x4 x6 r h
  unfold Sp_bestTrial_46 at h
  refine z_iload dX8_bestTrial_46 2 rfl ?_
  refine z_istore_n (M := mX8_bestTrial) (lv2 := [(2, .int x4), (0, .int x0), (1, .int x1), (4, .int x4), (6, .int x6)]) dX8_bestTrial_48 (Nat.le_of_ble_eq_true rfl) rfl ?_
  refine z_iload dX8_bestTrial_49 4 rfl ?_
  refine z_istore_n (M := mX8_bestTrial) (lv2 := [(3, .int x6), (2, .int x4), (0, .int x0), (1, .int x1), (4, .int x4), (6, .int x6)]) dX8_bestTrial_51 (Nat.le_of_ble_eq_true rfl) rfl ?_
  refine z_lv (lv2 := [(0, .int x0), (1, .int x1), (2, .int x4), (3, .int x6), (4, .int x4)]) [2, 3, 1, 0, 4] rfl ?_
  exact t_Sp_bestTrial_52 hd0 hk7 x0 x1 x4 x6 x4 _ h
def Sp_bestTrial_7 : Nat → Int32 → Int32 → Int32 → Int32 → Int32 → Option Int32
  | 0, _, _, _, _, _ => none
  | f + 1, x0, x1, x2, x3, x4 =>
    (if x1 < x4 then
      some x2
    else
      (Sp_countFailing x0 x4).bind fun v2 =>
      (In_bitCount x0).bind fun v3 =>
      (if x2 = (-1 : Int32) then
        Sp_bestTrial_46 (Sp_bestTrial_7 f) x0 x1 x4 (imax v2 (v3 - v2))
      else
        (if x3 ≤ (imax v2 (v3 - v2)) then
          Sp_bestTrial_52 (Sp_bestTrial_7 f) x0 x1 x2 x3 x4
        else
          Sp_bestTrial_46 (Sp_bestTrial_7 f) x0 x1 x4 (imax v2 (v3 - v2)))))
set_option maxRecDepth 100000 in
set_option maxHeartbeats 4000000 in
theorem t_Sp_bestTrial_7 {g : GG} {d : Nat} {μ : Mm} (hd0 : 2 ≤ d) : ∀ (f : Nat), ∀ (x0 : Int32) (x1 : Int32) (x2 : Int32) (x3 : Int32) (x4 : Int32) (r : Int32), Sp_bestTrial_7 f x0 x1 x2 x3 x4 = some r → Z g d (0, 0) mX8_bestTrial 333 0 0 7 [(0, .int x0), (1, .int x1), (2, .int x2), (3, .int x3), (4, .int x4)] [] μ (zF g (some (.int r), μ)) := by
  intro f
  induction f with
  | zero =>
    intro x0 x1 x2 x3 x4 r h
    cases h
  | succ f ih =>
    intro x0 x1 x2 x3 x4 r h
    rw [Sp_bestTrial_7] at h
    refine z_iload dX8_bestTrial_7 4 rfl ?_
    refine z_iload_n dX8_bestTrial_9 1 rfl ?_
    refine z_icmp_gt 58 dX8_bestTrial_10 rfl (fun hc1 => ?_) (fun hc1 => ?_)
    · replace h := oT hc1 h
      refine z_iload_n dX8_bestTrial_58 2 rfl ?_
      cases h
      exact z_iret dX8_bestTrial_59 rfl
    · replace h := oF hc1 h
      refine z_iload_n dX8_bestTrial_13 0 rfl ?_
      refine z_iload dX8_bestTrial_14 4 rfl ?_
      obtain ⟨v2, he2, h⟩ := obind h
      refine y_Si (M := mX8_bestTrial) (Y := mX8_countFailing) (d2 := d - 1) (As := [.int x0, .int x4]) (st := []) dX8_bestTrial_16 mlRX8_19 cv_X8_countFailing (ct_Sp_countFailing (dle (Nat.le_of_ble_eq_true rfl) hd0) he2) (dps (Nat.le_of_ble_eq_true rfl) hd0) rfl rfl (Nat.le_of_ble_eq_true rfl) ?_
      refine z_istore (M := mX8_bestTrial) (lv2 := [(5, .int v2), (0, .int x0), (1, .int x1), (2, .int x2), (3, .int x3), (4, .int x4)]) dX8_bestTrial_19 (Nat.le_of_ble_eq_true rfl) rfl ?_
      refine z_iload dX8_bestTrial_21 0 rfl ?_
      refine z_iload_n dX8_bestTrial_23 1 rfl ?_
      obtain ⟨v3, he3, h⟩ := obind h
      refine y_Si (M := mX8_bestTrial) (Y := mJ6_bitCount_0f7a4) (d2 := d - 1) (As := [.int x0]) (st := [.int v2]) dX8_bestTrial_24 mlRX8_25 cv_J6_bitCount_0f7a4 (ct_In_bitCount (dle (Nat.le_of_ble_eq_true rfl) hd0) he3) (dps (Nat.le_of_ble_eq_true rfl) hd0) rfl rfl (Nat.le_of_ble_eq_true rfl) ?_
      refine z_iload dX8_bestTrial_27 0 rfl ?_
      refine z_isub dX8_bestTrial_29 ?_
      refine y_mmax dX8_bestTrial_30 mlRX8_31 mw_mmax (Nat.le_trans (Nat.le_of_ble_eq_true rfl) hd0) (Nat.le_of_ble_eq_true rfl) ?_
      refine z_istore (M := mX8_bestTrial) (lv2 := [(6, .int (imax v2 (v3 - v2))), (5, .int v2), (0, .int x0), (1, .int x1), (2, .int x2), (3, .int x3), (4, .int x4)]) dX8_bestTrial_33 (Nat.le_of_ble_eq_true rfl) rfl ?_
      refine z_iload_n dX8_bestTrial_35 4 rfl ?_
      refine z_iconst (M := mX8_bestTrial) (v := -1) dX8_bestTrial_36 rfl ?_
      refine z_icmp_eq 46 dX8_bestTrial_37 rfl (fun hc4 => ?_) (fun hc4 => ?_)
      · replace h := oT hc4 h
        refine z_lv (lv2 := [(0, .int x0), (1, .int x1), (4, .int x4), (6, .int (imax v2 (v3 - v2)))]) [2, 3, 6, 0] rfl ?_
        exact t_Sp_bestTrial_46 hd0 ih x0 x1 x4 (imax v2 (v3 - v2)) _ h
      · replace h := oF hc4 h
        refine z_iload dX8_bestTrial_40 0 rfl ?_
        refine z_iload_n dX8_bestTrial_42 5 rfl ?_
        refine z_icmp_ge 52 dX8_bestTrial_43 rfl (fun hc5 => ?_) (fun hc5 => ?_)
        · replace h := oT hc5 h
          refine z_lv (lv2 := [(0, .int x0), (1, .int x1), (2, .int x2), (3, .int x3), (4, .int x4)]) [2, 3, 4, 5, 6] rfl ?_
          exact t_Sp_bestTrial_52 hd0 ih x0 x1 x2 x3 x4 _ h
        · replace h := oF hc5 h
          refine z_lv (lv2 := [(0, .int x0), (1, .int x1), (4, .int x4), (6, .int (imax v2 (v3 - v2)))]) [2, 3, 6, 0] rfl ?_
          exact t_Sp_bestTrial_46 hd0 ih x0 x1 x4 (imax v2 (v3 - v2)) _ h
def Sp_bestTrial (x0 : Int32) (x1 : Int32) : Option Int32 :=
  Sp_bestTrial_7 FU x0 x1 (-1 : Int32) (0 : Int32) (1 : Int32)
set_option maxRecDepth 100000 in
set_option maxHeartbeats 4000000 in
theorem t_Sp_bestTrial {g : GG} {d : Nat} {μ : Mm} (hd0 : 2 ≤ d) : ∀ (x0 : Int32) (x1 : Int32) (r : Int32), Sp_bestTrial x0 x1 = some r → Z g d (0, 0) mX8_bestTrial 333 0 0 0 [(0, .int x0), (1, .int x1)] [] μ (zF g (some (.int r), μ)) := by
  intro x0 x1 r h
  unfold Sp_bestTrial at h
  refine z_iconst (M := mX8_bestTrial) (v := -1) dX8_bestTrial_0 rfl ?_
  refine z_istore_n (M := mX8_bestTrial) (lv2 := [(2, .int (-1 : Int32)), (0, .int x0), (1, .int x1)]) dX8_bestTrial_1 (Nat.le_of_ble_eq_true rfl) rfl ?_
  refine z_iconst (M := mX8_bestTrial) (v := 0) dX8_bestTrial_2 rfl ?_
  refine z_istore_n (M := mX8_bestTrial) (lv2 := [(3, .int (0 : Int32)), (2, .int (-1 : Int32)), (0, .int x0), (1, .int x1)]) dX8_bestTrial_3 (Nat.le_of_ble_eq_true rfl) rfl ?_
  refine z_iconst (M := mX8_bestTrial) (v := 1) dX8_bestTrial_4 rfl ?_
  refine z_istore (M := mX8_bestTrial) (lv2 := [(4, .int (1 : Int32)), (3, .int (0 : Int32)), (2, .int (-1 : Int32)), (0, .int x0), (1, .int x1)]) dX8_bestTrial_5 (Nat.le_of_ble_eq_true rfl) rfl ?_
  refine z_lv (lv2 := [(0, .int x0), (1, .int x1), (2, .int (-1 : Int32)), (3, .int (0 : Int32)), (4, .int (1 : Int32))]) [3, 4, 2, 1, 0] rfl ?_
  exact t_Sp_bestTrial_7 hd0 FU x0 x1 (-1 : Int32) (0 : Int32) (1 : Int32) _ h
theorem ct_Sp_bestTrial {g : GG} {d : Nat} {x0 : Int32} {x1 : Int32} {μ : Mm} {r : Int32} (hd0 : 2 ≤ d)  (h : Sp_bestTrial x0 x1 = some r) : Ct g d mX8_bestTrial [.int x0, .int x1] μ (some (.int r), μ) := y_entry in_X8_bestTrial (Nat.le_of_ble_eq_true rfl) rfl (t_Sp_bestTrial hd0 x0 x1 r h)
-- FuseMinutes$Text.clear()V
theorem dX9_clear_0 : decode cX9_clear 0 = .ok (.aload_n 0, 1) := by decide +kernel
theorem dX9_clear_1 : decode cX9_clear 1 = .ok (.iconst 0, 1) := by decide +kernel
theorem dX9_clear_2 : decode cX9_clear 2 = .ok (.putfield 30, 3) := by decide +kernel
theorem dX9_clear_5 : decode cX9_clear 5 = .ok (.aload_n 0, 1) := by decide +kernel
theorem dX9_clear_6 : decode cX9_clear 6 = .ok (.iconst 0, 1) := by decide +kernel
theorem dX9_clear_7 : decode cX9_clear 7 = .ok (.putfield 34, 3) := by decide +kernel
theorem dX9_clear_10 : decode cX9_clear 10 = .ok (.iconst 0, 1) := by decide +kernel
theorem dX9_clear_11 : decode cX9_clear 11 = .ok (.istore_n 1, 1) := by decide +kernel
theorem dX9_clear_12 : decode cX9_clear 12 = .ok (.iload_n 1, 1) := by decide +kernel
theorem dX9_clear_13 : decode cX9_clear 13 = .ok (.iconst 1, 1) := by decide +kernel
theorem dX9_clear_14 : decode cX9_clear 14 = .ok (.if_icmp .gt 23, 3) := by decide +kernel
theorem dX9_clear_17 : decode cX9_clear 17 = .ok (.aload_n 0, 1) := by decide +kernel
theorem dX9_clear_18 : decode cX9_clear 18 = .ok (.getfield 24, 3) := by decide +kernel
theorem dX9_clear_21 : decode cX9_clear 21 = .ok (.iload_n 1, 1) := by decide +kernel
theorem dX9_clear_22 : decode cX9_clear 22 = .ok (.iconst 0, 1) := by decide +kernel
theorem dX9_clear_23 : decode cX9_clear 23 = .ok (.iastore, 1) := by decide +kernel
theorem dX9_clear_24 : decode cX9_clear 24 = .ok (.aload_n 0, 1) := by decide +kernel
theorem dX9_clear_25 : decode cX9_clear 25 = .ok (.getfield 27, 3) := by decide +kernel
theorem dX9_clear_28 : decode cX9_clear 28 = .ok (.iload_n 1, 1) := by decide +kernel
theorem dX9_clear_29 : decode cX9_clear 29 = .ok (.iconst 0, 1) := by decide +kernel
theorem dX9_clear_30 : decode cX9_clear 30 = .ok (.iastore, 1) := by decide +kernel
theorem dX9_clear_31 : decode cX9_clear 31 = .ok (.iinc 1 1, 3) := by decide +kernel
theorem dX9_clear_34 : decode cX9_clear 34 = .ok (.goto (-22), 3) := by decide +kernel
theorem dX9_clear_37 : decode cX9_clear 37 = .ok (.return_, 1) := by decide +kernel
def Tx_clear_12 : Nat → Nat → Int32 → Nm → Option Nm
  | 0, _, _, _ => none
  | f + 1, x0, x1, ν =>
    (if (1 : Int32) < x1 then
      some ν
    else
      if inb x1 2 then
      if inb x1 2 then
      (Tx_clear_12 f) x0 (x1 + (1 : Int32)) (si (si ν (x0 + 5) x1.toNatClampNeg (0 : Int32)) (x0 + 6) x1.toNatClampNeg (0 : Int32))
      else none
      else none)
set_option maxRecDepth 100000 in
set_option maxHeartbeats 4000000 in
theorem t_Tx_clear_12 {g : GG} {d : Nat} (hd0 : 1 ≤ d) : ∀ (f : Nat), ∀ (x0 : Nat) (x1 : Int32) (ν : Nm) (r : Nm), zk 333 x0 (7, 0) → Tx_clear_12 f x0 x1 ν = some r → Z g d (0, 0) mX9_clear 333 0 0 12 [(0, .ref x0), (1, .int x1)] [] (zem ν) (zF g (none, zem r)) := by
  intro f
  induction f with
  | zero =>
    intro x0 x1 ν r hq0 h
    cases h
  | succ f ih =>
    intro x0 x1 ν r hq0 h
    rw [Tx_clear_12] at h
    refine z_iload_n dX9_clear_12 1 rfl ?_
    refine z_iconst (M := mX9_clear) (v := 1) dX9_clear_13 rfl ?_
    refine z_icmp_gt 37 dX9_clear_14 rfl (fun hc1 => ?_) (fun hc1 => ?_)
    · replace h := oT hc1 h
      cases h
      exact z_vret dX9_clear_37 rfl
    · replace h := oF hc1 h
      refine z_aload_n dX9_clear_17 0 rfl ?_
      refine y_getR (M := mX9_clear) (r := (x0 + 5)) dX9_clear_18 hq0 flRX9_24 fr_7_6.1 (fr_7_6.2 _) ?_
      refine z_iload_n dX9_clear_21 1 rfl ?_
      refine z_iconst (M := mX9_clear) (v := 0) dX9_clear_22 rfl ?_
      obtain ⟨hi2, h⟩ := oif h
      refine y_iast (M := mX9_clear) (jj := x1.toNatClampNeg) dX9_clear_23 (zko_7_6 hq0) hi2 rfl ?_
      refine z_aload_n dX9_clear_24 0 rfl ?_
      refine y_getR (M := mX9_clear) (r := (x0 + 6)) dX9_clear_25 hq0 flRX9_27 fr_7_7.1 (fr_7_7.2 _) ?_
      refine z_iload_n dX9_clear_28 1 rfl ?_
      refine z_iconst (M := mX9_clear) (v := 0) dX9_clear_29 rfl ?_
      obtain ⟨hi3, h⟩ := oif h
      refine y_iast (M := mX9_clear) (jj := x1.toNatClampNeg) dX9_clear_30 (zko_7_7 hq0) hi3 rfl ?_
      refine z_iinc (M := mX9_clear) (v := (x1 + (1 : Int32))) (lv2 := [(1, .int (x1 + (1 : Int32))), (0, .ref x0)]) dX9_clear_31 1 rfl rfl (Nat.le_of_ble_eq_true rfl) rfl ?_
      refine z_goto 12 dX9_clear_34 rfl ?_
      refine z_lv (lv2 := [(0, .ref x0), (1, .int (x1 + (1 : Int32)))]) [1, 0] rfl ?_
      exact ih x0 (x1 + (1 : Int32)) (si (si ν (x0 + 5) x1.toNatClampNeg (0 : Int32)) (x0 + 6) x1.toNatClampNeg (0 : Int32)) _ hq0 h
def Tx_clear (x0 : Nat) (ν : Nm) : Option Nm :=
  Tx_clear_12 FU x0 (0 : Int32) (si (si ν x0 3 (0 : Int32)) x0 5 (0 : Int32))
set_option maxRecDepth 100000 in
set_option maxHeartbeats 4000000 in
theorem t_Tx_clear {g : GG} {d : Nat} (hd0 : 1 ≤ d) : ∀ (x0 : Nat) (ν : Nm) (r : Nm), zk 333 x0 (7, 0) → Tx_clear x0 ν = some r → Z g d (0, 0) mX9_clear 333 0 0 0 [(0, .ref x0)] [] (zem ν) (zF g (none, zem r)) := by
  intro x0 ν r hq0 h
  unfold Tx_clear at h
  refine z_aload_n dX9_clear_0 0 rfl ?_
  refine z_iconst (M := mX9_clear) (v := 0) dX9_clear_1 rfl ?_
  refine y_putI dX9_clear_2 hq0 flRX9_30 ⟨rfl, rfl⟩ ?_
  refine z_aload_n dX9_clear_5 0 rfl ?_
  refine z_iconst (M := mX9_clear) (v := 0) dX9_clear_6 rfl ?_
  refine y_putI dX9_clear_7 hq0 flRX9_34 ⟨rfl, rfl⟩ ?_
  refine z_iconst (M := mX9_clear) (v := 0) dX9_clear_10 rfl ?_
  refine z_istore_n (M := mX9_clear) (lv2 := [(1, .int (0 : Int32)), (0, .ref x0)]) dX9_clear_11 (Nat.le_of_ble_eq_true rfl) rfl ?_
  refine z_lv (lv2 := [(0, .ref x0), (1, .int (0 : Int32))]) [1, 0] rfl ?_
  exact t_Tx_clear_12 hd0 FU x0 (0 : Int32) (si (si ν x0 3 (0 : Int32)) x0 5 (0 : Int32)) _ hq0 h
theorem ct_Tx_clear {g : GG} {d : Nat} {x0 : Nat} {ν : Nm} {r : Nm} (hd0 : 1 ≤ d) (hq0 : zk 333 x0 (7, 0)) (h : Tx_clear x0 ν = some r) : Ct g d mX9_clear [.ref x0] (zem ν) (none, zem r) := y_entry in_X9_clear (Nat.le_of_ble_eq_true rfl) rfl (t_Tx_clear hd0 x0 ν r hq0 h)
-- FuseMinutes$Text.rules(I)Z
theorem dX9_rules_0 : decode cX9_rules 0 = .ok (.aload_n 0, 1) := by decide +kernel
theorem dX9_rules_1 : decode cX9_rules 1 = .ok (.getfield 24, 3) := by decide +kernel
theorem dX9_rules_4 : decode cX9_rules 4 = .ok (.iload_n 1, 1) := by decide +kernel
theorem dX9_rules_5 : decode cX9_rules 5 = .ok (.iaload, 1) := by decide +kernel
theorem dX9_rules_6 : decode cX9_rules 6 = .ok (.aload_n 0, 1) := by decide +kernel
theorem dX9_rules_7 : decode cX9_rules 7 = .ok (.getfield 27, 3) := by decide +kernel
theorem dX9_rules_10 : decode cX9_rules 10 = .ok (.iload_n 1, 1) := by decide +kernel
theorem dX9_rules_11 : decode cX9_rules 11 = .ok (.iaload, 1) := by decide +kernel
theorem dX9_rules_12 : decode cX9_rules 12 = .ok (.if_icmp .ge 7, 3) := by decide +kernel
theorem dX9_rules_15 : decode cX9_rules 15 = .ok (.iconst 1, 1) := by decide +kernel
theorem dX9_rules_16 : decode cX9_rules 16 = .ok (.goto 4, 3) := by decide +kernel
theorem dX9_rules_19 : decode cX9_rules 19 = .ok (.iconst 0, 1) := by decide +kernel
theorem dX9_rules_20 : decode cX9_rules 20 = .ok (.ireturn, 1) := by decide +kernel
def Tx_rules (ν : Nm) (x0 : Nat) (x1 : Int32) : Option Bool :=
  if inb x1 2 then
  if inb x1 2 then
  (if (gi ν (x0 + 6) x1.toNatClampNeg) ≤ (gi ν (x0 + 5) x1.toNatClampNeg) then
    some false
  else
    some true)
  else none
  else none
set_option maxRecDepth 100000 in
set_option maxHeartbeats 4000000 in
theorem t_Tx_rules {g : GG} {d : Nat} {ν : Nm} (hd0 : 1 ≤ d) : ∀ (x0 : Nat) (x1 : Int32) (r : Bool), zk 333 x0 (7, 0) → Tx_rules ν x0 x1 = some r → Z g d (0, 0) mX9_rules 333 0 0 0 [(0, .ref x0), (1, .int x1)] [] (zem ν) (zF g (some (.int (b2i r)), zem ν)) := by
  intro x0 x1 r hq0 h
  unfold Tx_rules at h
  refine z_aload_n dX9_rules_0 0 rfl ?_
  refine y_getR (M := mX9_rules) (r := (x0 + 5)) dX9_rules_1 hq0 flRX9_24 fr_7_6.1 (fr_7_6.2 _) ?_
  refine z_iload_n dX9_rules_4 1 rfl ?_
  obtain ⟨hi1, h⟩ := oif h
  refine y_iald (M := mX9_rules) (jj := x1.toNatClampNeg) dX9_rules_5 (zko_7_6 hq0) hi1 rfl ?_
  refine z_aload_n dX9_rules_6 0 rfl ?_
  refine y_getR (M := mX9_rules) (r := (x0 + 6)) dX9_rules_7 hq0 flRX9_27 fr_7_7.1 (fr_7_7.2 _) ?_
  refine z_iload_n dX9_rules_10 1 rfl ?_
  obtain ⟨hi2, h⟩ := oif h
  refine y_iald (M := mX9_rules) (jj := x1.toNatClampNeg) dX9_rules_11 (zko_7_7 hq0) hi2 rfl ?_
  refine z_icmp_ge 19 dX9_rules_12 rfl (fun hc3 => ?_) (fun hc3 => ?_)
  · replace h := oT hc3 h
    refine z_iconst (M := mX9_rules) (v := 0) dX9_rules_19 rfl ?_
    cases h
    exact z_zret dX9_rules_20 rfl rfl
  · replace h := oF hc3 h
    refine z_iconst (M := mX9_rules) (v := 1) dX9_rules_15 rfl ?_
    refine z_goto 20 dX9_rules_16 rfl ?_
    cases h
    exact z_zret dX9_rules_20 rfl rfl
theorem ct_Tx_rules {g : GG} {d : Nat} {x0 : Nat} {x1 : Int32} {ν : Nm} {r : Bool} (hd0 : 1 ≤ d) (hq0 : zk 333 x0 (7, 0)) (h : Tx_rules ν x0 x1 = some r) : Ct g d mX9_rules [.ref x0, .int x1] (zem ν) (some (.int (b2i r)), zem ν) := y_entry in_X9_rules (Nat.le_of_ble_eq_true rfl) rfl (t_Tx_rules hd0 x0 x1 r hq0 h)
-- FuseMinutes$Text.addClause(III)V
theorem dX9_addClause_0 : decode cX9_addClause 0 = .ok (.aload_n 0, 1) := by decide +kernel
theorem dX9_addClause_1 : decode cX9_addClause 1 = .ok (.getfield 30, 3) := by decide +kernel
theorem dX9_addClause_4 : decode cX9_addClause 4 = .ok (.bipush 24, 2) := by decide +kernel
theorem dX9_addClause_6 : decode cX9_addClause 6 = .ok (.if_icmp .ge 43, 3) := by decide +kernel
theorem dX9_addClause_9 : decode cX9_addClause 9 = .ok (.aload_n 0, 1) := by decide +kernel
theorem dX9_addClause_10 : decode cX9_addClause 10 = .ok (.getfield 9, 3) := by decide +kernel
theorem dX9_addClause_13 : decode cX9_addClause 13 = .ok (.aload_n 0, 1) := by decide +kernel
theorem dX9_addClause_14 : decode cX9_addClause 14 = .ok (.getfield 30, 3) := by decide +kernel
theorem dX9_addClause_17 : decode cX9_addClause 17 = .ok (.iload_n 1, 1) := by decide +kernel
theorem dX9_addClause_18 : decode cX9_addClause 18 = .ok (.iastore, 1) := by decide +kernel
theorem dX9_addClause_19 : decode cX9_addClause 19 = .ok (.aload_n 0, 1) := by decide +kernel
theorem dX9_addClause_20 : decode cX9_addClause 20 = .ok (.getfield 15, 3) := by decide +kernel
theorem dX9_addClause_23 : decode cX9_addClause 23 = .ok (.aload_n 0, 1) := by decide +kernel
theorem dX9_addClause_24 : decode cX9_addClause 24 = .ok (.getfield 30, 3) := by decide +kernel
theorem dX9_addClause_27 : decode cX9_addClause 27 = .ok (.iload_n 2, 1) := by decide +kernel
theorem dX9_addClause_28 : decode cX9_addClause 28 = .ok (.iastore, 1) := by decide +kernel
theorem dX9_addClause_29 : decode cX9_addClause 29 = .ok (.aload_n 0, 1) := by decide +kernel
theorem dX9_addClause_30 : decode cX9_addClause 30 = .ok (.getfield 18, 3) := by decide +kernel
theorem dX9_addClause_33 : decode cX9_addClause 33 = .ok (.aload_n 0, 1) := by decide +kernel
theorem dX9_addClause_34 : decode cX9_addClause 34 = .ok (.getfield 30, 3) := by decide +kernel
theorem dX9_addClause_37 : decode cX9_addClause 37 = .ok (.iload_n 3, 1) := by decide +kernel
theorem dX9_addClause_38 : decode cX9_addClause 38 = .ok (.iastore, 1) := by decide +kernel
theorem dX9_addClause_39 : decode cX9_addClause 39 = .ok (.aload_n 0, 1) := by decide +kernel
theorem dX9_addClause_40 : decode cX9_addClause 40 = .ok (.dup, 1) := by decide +kernel
theorem dX9_addClause_41 : decode cX9_addClause 41 = .ok (.getfield 30, 3) := by decide +kernel
theorem dX9_addClause_44 : decode cX9_addClause 44 = .ok (.iconst 1, 1) := by decide +kernel
theorem dX9_addClause_45 : decode cX9_addClause 45 = .ok (.iadd, 1) := by decide +kernel
theorem dX9_addClause_46 : decode cX9_addClause 46 = .ok (.putfield 30, 3) := by decide +kernel
theorem dX9_addClause_49 : decode cX9_addClause 49 = .ok (.return_, 1) := by decide +kernel
def Tx_addClause_39 (x0 : Nat) (ν : Nm) : Option Nm :=
  some (si ν x0 3 ((gi ν x0 3) + (1 : Int32)))
set_option maxRecDepth 100000 in
set_option maxHeartbeats 4000000 in
theorem t_Tx_addClause_39 {g : GG} {d : Nat} (hd0 : 1 ≤ d) : ∀ (x0 : Nat) (ν : Nm) (r : Nm), zk 333 x0 (7, 0) → Tx_addClause_39 x0 ν = some r → Z g d (0, 0) mX9_addClause 333 0 0 39 [(0, .ref x0)] [] (zem ν) (zF g (none, zem r)) := by
  intro x0 ν r hq0 h
  unfold Tx_addClause_39 at h
  refine z_aload_n dX9_addClause_39 0 rfl ?_
  refine z_dup dX9_addClause_40 rfl ?_
  refine y_getI dX9_addClause_41 hq0 flRX9_30 ?_
  refine z_iconst (M := mX9_addClause) (v := 1) dX9_addClause_44 rfl ?_
  refine z_iadd dX9_addClause_45 ?_
  refine y_putI dX9_addClause_46 hq0 flRX9_30 ⟨rfl, rfl⟩ ?_
  cases h
  exact z_vret dX9_addClause_49 rfl
def Tx_addClause (x0 : Nat) (x1 : Int32) (x2 : Int32) (x3 : Int32) (ν : Nm) : Option Nm :=
  (if (24 : Int32) ≤ (gi ν x0 3) then
    some ν
  else
    if inb (gi ν x0 3) 24 then
    if inb (gi (si ν (x0 + 1) (gi ν x0 3).toNatClampNeg x1) x0 3) 24 then
    if inb (gi (si (si ν (x0 + 1) (gi ν x0 3).toNatClampNeg x1) (x0 + 2) (gi (si ν (x0 + 1) (gi ν x0 3).toNatClampNeg x1) x0 3).toNatClampNeg x2) x0 3) 24 then
    Tx_addClause_39 x0 (si (si (si ν (x0 + 1) (gi ν x0 3).toNatClampNeg x1) (x0 + 2) (gi (si ν (x0 + 1) (gi ν x0 3).toNatClampNeg x1) x0 3).toNatClampNeg x2) (x0 + 3) (gi (si (si ν (x0 + 1) (gi ν x0 3).toNatClampNeg x1) (x0 + 2) (gi (si ν (x0 + 1) (gi ν x0 3).toNatClampNeg x1) x0 3).toNatClampNeg x2) x0 3).toNatClampNeg x3)
    else none
    else none
    else none)
set_option maxRecDepth 100000 in
set_option maxHeartbeats 4000000 in
theorem t_Tx_addClause {g : GG} {d : Nat} (hd0 : 1 ≤ d) : ∀ (x0 : Nat) (x1 : Int32) (x2 : Int32) (x3 : Int32) (ν : Nm) (r : Nm), zk 333 x0 (7, 0) → Tx_addClause x0 x1 x2 x3 ν = some r → Z g d (0, 0) mX9_addClause 333 0 0 0 [(0, .ref x0), (1, .int x1), (2, .int x2), (3, .int x3)] [] (zem ν) (zF g (none, zem r)) := by
  intro x0 x1 x2 x3 ν r hq0 h
  unfold Tx_addClause at h
  refine z_aload_n dX9_addClause_0 0 rfl ?_
  refine y_getI dX9_addClause_1 hq0 flRX9_30 ?_
  refine z_bipush (M := mX9_addClause) (v := 24) dX9_addClause_4 rfl ?_
  refine z_icmp_ge 49 dX9_addClause_6 rfl (fun hc1 => ?_) (fun hc1 => ?_)
  · replace h := oT hc1 h
    cases h
    exact z_vret dX9_addClause_49 rfl
  · replace h := oF hc1 h
    refine z_aload_n dX9_addClause_9 0 rfl ?_
    refine y_getR (M := mX9_addClause) (r := (x0 + 1)) dX9_addClause_10 hq0 flRX9_9 fr_7_0.1 (fr_7_0.2 _) ?_
    refine z_aload_n dX9_addClause_13 0 rfl ?_
    refine y_getI dX9_addClause_14 hq0 flRX9_30 ?_
    refine z_iload_n dX9_addClause_17 1 rfl ?_
    obtain ⟨hi2, h⟩ := oif h
    refine y_iast (M := mX9_addClause) (jj := (gi ν x0 3).toNatClampNeg) dX9_addClause_18 (zko_7_0 hq0) hi2 rfl ?_
    refine z_aload_n dX9_addClause_19 0 rfl ?_
    refine y_getR (M := mX9_addClause) (r := (x0 + 2)) dX9_addClause_20 hq0 flRX9_15 fr_7_1.1 (fr_7_1.2 _) ?_
    refine z_aload_n dX9_addClause_23 0 rfl ?_
    refine y_getI dX9_addClause_24 hq0 flRX9_30 ?_
    refine z_iload_n dX9_addClause_27 2 rfl ?_
    obtain ⟨hi3, h⟩ := oif h
    refine y_iast (M := mX9_addClause) (jj := (gi (si ν (x0 + 1) (gi ν x0 3).toNatClampNeg x1) x0 3).toNatClampNeg) dX9_addClause_28 (zko_7_1 hq0) hi3 rfl ?_
    refine z_aload_n dX9_addClause_29 0 rfl ?_
    refine y_getR (M := mX9_addClause) (r := (x0 + 3)) dX9_addClause_30 hq0 flRX9_18 fr_7_2.1 (fr_7_2.2 _) ?_
    refine z_aload_n dX9_addClause_33 0 rfl ?_
    refine y_getI dX9_addClause_34 hq0 flRX9_30 ?_
    refine z_iload_n dX9_addClause_37 3 rfl ?_
    obtain ⟨hi4, h⟩ := oif h
    refine y_iast (M := mX9_addClause) (jj := (gi (si (si ν (x0 + 1) (gi ν x0 3).toNatClampNeg x1) (x0 + 2) (gi (si ν (x0 + 1) (gi ν x0 3).toNatClampNeg x1) x0 3).toNatClampNeg x2) x0 3).toNatClampNeg) dX9_addClause_38 (zko_7_2 hq0) hi4 rfl ?_
    refine z_lv (lv2 := [(0, .ref x0)]) [0] rfl ?_
    exact t_Tx_addClause_39 hd0  x0 (si (si (si ν (x0 + 1) (gi ν x0 3).toNatClampNeg x1) (x0 + 2) (gi (si ν (x0 + 1) (gi ν x0 3).toNatClampNeg x1) x0 3).toNatClampNeg x2) (x0 + 3) (gi (si (si ν (x0 + 1) (gi ν x0 3).toNatClampNeg x1) (x0 + 2) (gi (si ν (x0 + 1) (gi ν x0 3).toNatClampNeg x1) x0 3).toNatClampNeg x2) x0 3).toNatClampNeg x3) _ hq0 h
theorem ct_Tx_addClause {g : GG} {d : Nat} {x0 : Nat} {x1 : Int32} {x2 : Int32} {x3 : Int32} {ν : Nm} {r : Nm} (hd0 : 1 ≤ d) (hq0 : zk 333 x0 (7, 0)) (h : Tx_addClause x0 x1 x2 x3 ν = some r) : Ct g d mX9_addClause [.ref x0, .int x1, .int x2, .int x3] (zem ν) (none, zem r) := y_entry in_X9_addClause (Nat.le_of_ble_eq_true rfl) rfl (t_Tx_addClause hd0 x0 x1 x2 x3 ν r hq0 h)
-- FuseMinutes$Text.addCode(I)V
theorem dX9_addCode_0 : decode cX9_addCode 0 = .ok (.aload_n 0, 1) := by decide +kernel
theorem dX9_addCode_1 : decode cX9_addCode 1 = .ok (.getfield 34, 3) := by decide +kernel
theorem dX9_addCode_4 : decode cX9_addCode 4 = .ok (.sipush 300, 3) := by decide +kernel
theorem dX9_addCode_7 : decode cX9_addCode 7 = .ok (.if_icmp .ge 23, 3) := by decide +kernel
theorem dX9_addCode_10 : decode cX9_addCode 10 = .ok (.aload_n 0, 1) := by decide +kernel
theorem dX9_addCode_11 : decode cX9_addCode 11 = .ok (.getfield 21, 3) := by decide +kernel
theorem dX9_addCode_14 : decode cX9_addCode 14 = .ok (.aload_n 0, 1) := by decide +kernel
theorem dX9_addCode_15 : decode cX9_addCode 15 = .ok (.getfield 34, 3) := by decide +kernel
theorem dX9_addCode_18 : decode cX9_addCode 18 = .ok (.iload_n 1, 1) := by decide +kernel
theorem dX9_addCode_19 : decode cX9_addCode 19 = .ok (.iastore, 1) := by decide +kernel
theorem dX9_addCode_20 : decode cX9_addCode 20 = .ok (.aload_n 0, 1) := by decide +kernel
theorem dX9_addCode_21 : decode cX9_addCode 21 = .ok (.dup, 1) := by decide +kernel
theorem dX9_addCode_22 : decode cX9_addCode 22 = .ok (.getfield 34, 3) := by decide +kernel
theorem dX9_addCode_25 : decode cX9_addCode 25 = .ok (.iconst 1, 1) := by decide +kernel
theorem dX9_addCode_26 : decode cX9_addCode 26 = .ok (.iadd, 1) := by decide +kernel
theorem dX9_addCode_27 : decode cX9_addCode 27 = .ok (.putfield 34, 3) := by decide +kernel
theorem dX9_addCode_30 : decode cX9_addCode 30 = .ok (.return_, 1) := by decide +kernel
def Tx_addCode (x0 : Nat) (x1 : Int32) (ν : Nm) : Option Nm :=
  (if (300 : Int32) ≤ (gi ν x0 5) then
    some ν
  else
    if inb (gi ν x0 5) 300 then
    some (si (si ν (x0 + 4) (gi ν x0 5).toNatClampNeg x1) x0 5 ((gi (si ν (x0 + 4) (gi ν x0 5).toNatClampNeg x1) x0 5) + (1 : Int32)))
    else none)
set_option maxRecDepth 100000 in
set_option maxHeartbeats 4000000 in
theorem t_Tx_addCode {g : GG} {d : Nat} (hd0 : 1 ≤ d) : ∀ (x0 : Nat) (x1 : Int32) (ν : Nm) (r : Nm), zk 333 x0 (7, 0) → Tx_addCode x0 x1 ν = some r → Z g d (0, 0) mX9_addCode 333 0 0 0 [(0, .ref x0), (1, .int x1)] [] (zem ν) (zF g (none, zem r)) := by
  intro x0 x1 ν r hq0 h
  unfold Tx_addCode at h
  refine z_aload_n dX9_addCode_0 0 rfl ?_
  refine y_getI dX9_addCode_1 hq0 flRX9_34 ?_
  refine z_sipush (M := mX9_addCode) (v := 300) dX9_addCode_4 rfl ?_
  refine z_icmp_ge 30 dX9_addCode_7 rfl (fun hc1 => ?_) (fun hc1 => ?_)
  · replace h := oT hc1 h
    cases h
    exact z_vret dX9_addCode_30 rfl
  · replace h := oF hc1 h
    refine z_aload_n dX9_addCode_10 0 rfl ?_
    refine y_getR (M := mX9_addCode) (r := (x0 + 4)) dX9_addCode_11 hq0 flRX9_21 fr_7_4.1 (fr_7_4.2 _) ?_
    refine z_aload_n dX9_addCode_14 0 rfl ?_
    refine y_getI dX9_addCode_15 hq0 flRX9_34 ?_
    refine z_iload_n dX9_addCode_18 1 rfl ?_
    obtain ⟨hi2, h⟩ := oif h
    refine y_iast (M := mX9_addCode) (jj := (gi ν x0 5).toNatClampNeg) dX9_addCode_19 (zko_7_4 hq0) hi2 rfl ?_
    refine z_aload_n dX9_addCode_20 0 rfl ?_
    refine z_dup dX9_addCode_21 rfl ?_
    refine y_getI dX9_addCode_22 hq0 flRX9_34 ?_
    refine z_iconst (M := mX9_addCode) (v := 1) dX9_addCode_25 rfl ?_
    refine z_iadd dX9_addCode_26 ?_
    refine y_putI dX9_addCode_27 hq0 flRX9_34 ⟨rfl, rfl⟩ ?_
    cases h
    exact z_vret dX9_addCode_30 rfl
theorem ct_Tx_addCode {g : GG} {d : Nat} {x0 : Nat} {x1 : Int32} {ν : Nm} {r : Nm} (hd0 : 1 ≤ d) (hq0 : zk 333 x0 (7, 0)) (h : Tx_addCode x0 x1 ν = some r) : Ct g d mX9_addCode [.ref x0, .int x1] (zem ν) (none, zem r) := y_entry in_X9_addCode (Nat.le_of_ble_eq_true rfl) rfl (t_Tx_addCode hd0 x0 x1 ν r hq0 h)
-- FuseMinutes$Told.add(I)Z
theorem dX10_add_0 : decode cX10_add 0 = .ok (.aload_n 0, 1) := by decide +kernel
theorem dX10_add_1 : decode cX10_add 1 = .ok (.getfield 13, 3) := by decide +kernel
theorem dX10_add_4 : decode cX10_add 4 = .ok (.aload_n 0, 1) := by decide +kernel
theorem dX10_add_5 : decode cX10_add 5 = .ok (.getfield 7, 3) := by decide +kernel
theorem dX10_add_8 : decode cX10_add 8 = .ok (.arraylength, 1) := by decide +kernel
theorem dX10_add_9 : decode cX10_add 9 = .ok (.if_icmp .lt 5, 3) := by decide +kernel
theorem dX10_add_12 : decode cX10_add 12 = .ok (.iconst 0, 1) := by decide +kernel
theorem dX10_add_13 : decode cX10_add 13 = .ok (.ireturn, 1) := by decide +kernel
theorem dX10_add_14 : decode cX10_add 14 = .ok (.aload_n 0, 1) := by decide +kernel
theorem dX10_add_15 : decode cX10_add 15 = .ok (.getfield 7, 3) := by decide +kernel
theorem dX10_add_18 : decode cX10_add 18 = .ok (.aload_n 0, 1) := by decide +kernel
theorem dX10_add_19 : decode cX10_add 19 = .ok (.getfield 13, 3) := by decide +kernel
theorem dX10_add_22 : decode cX10_add 22 = .ok (.iload_n 1, 1) := by decide +kernel
theorem dX10_add_23 : decode cX10_add 23 = .ok (.iastore, 1) := by decide +kernel
theorem dX10_add_24 : decode cX10_add 24 = .ok (.aload_n 0, 1) := by decide +kernel
theorem dX10_add_25 : decode cX10_add 25 = .ok (.dup, 1) := by decide +kernel
theorem dX10_add_26 : decode cX10_add 26 = .ok (.getfield 13, 3) := by decide +kernel
theorem dX10_add_29 : decode cX10_add 29 = .ok (.iconst 1, 1) := by decide +kernel
theorem dX10_add_30 : decode cX10_add 30 = .ok (.iadd, 1) := by decide +kernel
theorem dX10_add_31 : decode cX10_add 31 = .ok (.putfield 13, 3) := by decide +kernel
theorem dX10_add_34 : decode cX10_add 34 = .ok (.iconst 1, 1) := by decide +kernel
theorem dX10_add_35 : decode cX10_add 35 = .ok (.ireturn, 1) := by decide +kernel
def To_add (x0 : Nat) (x1 : Int32) (ν : Nm) : Option (Bool × Nm) :=
  (if (gi ν x0 1) < (Int32.ofNat (tl x0)) then
    if inb (gi ν x0 1) (tl x0) then
    some (true, (si (si ν (x0 + 1) (gi ν x0 1).toNatClampNeg x1) x0 1 ((gi (si ν (x0 + 1) (gi ν x0 1).toNatClampNeg x1) x0 1) + (1 : Int32))))
    else none
  else
    some (false, ν))
set_option maxRecDepth 100000 in
set_option maxHeartbeats 4000000 in
theorem t_To_add {g : GG} {d : Nat} (hd0 : 1 ≤ d) : ∀ (x0 : Nat) (x1 : Int32) (ν : Nm) (r : (Bool × Nm)), zk 333 x0 (8, 0) → To_add x0 x1 ν = some r → Z g d (0, 0) mX10_add 333 0 0 0 [(0, .ref x0), (1, .int x1)] [] (zem ν) (zF g (some (.int (b2i r.1)), zem r.2)) := by
  intro x0 x1 ν r hq0 h
  unfold To_add at h
  refine z_aload_n dX10_add_0 0 rfl ?_
  refine y_getI dX10_add_1 hq0 flRX10_13 ?_
  refine z_aload_n dX10_add_4 0 rfl ?_
  refine y_getR (M := mX10_add) (r := (x0 + 1)) dX10_add_5 hq0 flRX10_7 fr_8_0.1 (fr_8_0.2 _) ?_
  refine z_alen (M := mX10_add) (v := (Int32.ofNat (tl x0))) dX10_add_8 (zko_8_0 hq0) rfl ?_
  refine z_icmp_lt 14 dX10_add_9 rfl (fun hc1 => ?_) (fun hc1 => ?_)
  · replace h := oT hc1 h
    refine z_aload_n dX10_add_14 0 rfl ?_
    refine y_getR (M := mX10_add) (r := (x0 + 1)) dX10_add_15 hq0 flRX10_7 fr_8_0.1 (fr_8_0.2 _) ?_
    refine z_aload_n dX10_add_18 0 rfl ?_
    refine y_getI dX10_add_19 hq0 flRX10_13 ?_
    refine z_iload_n dX10_add_22 1 rfl ?_
    obtain ⟨hi2, h⟩ := oif h
    refine y_iast (M := mX10_add) (jj := (gi ν x0 1).toNatClampNeg) dX10_add_23 (zko_8_0 hq0) hi2 rfl ?_
    refine z_aload_n dX10_add_24 0 rfl ?_
    refine z_dup dX10_add_25 rfl ?_
    refine y_getI dX10_add_26 hq0 flRX10_13 ?_
    refine z_iconst (M := mX10_add) (v := 1) dX10_add_29 rfl ?_
    refine z_iadd dX10_add_30 ?_
    refine y_putI dX10_add_31 hq0 flRX10_13 ⟨rfl, rfl⟩ ?_
    refine z_iconst (M := mX10_add) (v := 1) dX10_add_34 rfl ?_
    cases h
    exact z_zret dX10_add_35 rfl rfl
  · replace h := oF hc1 h
    refine z_iconst (M := mX10_add) (v := 0) dX10_add_12 rfl ?_
    cases h
    exact z_zret dX10_add_13 rfl rfl
theorem ct_To_add {g : GG} {d : Nat} {x0 : Nat} {x1 : Int32} {ν : Nm} {r : (Bool × Nm)} (hd0 : 1 ≤ d) (hq0 : zk 333 x0 (8, 0)) (h : To_add x0 x1 ν = some r) : Ct g d mX10_add [.ref x0, .int x1] (zem ν) (some (.int (b2i r.1)), zem r.2) := y_entry in_X10_add (Nat.le_of_ble_eq_true rfl) rfl (t_To_add hd0 x0 x1 ν r hq0 h)
-- java/lang/Long.bitCount(J)I
theorem dJ13_bitCount_95d88_0 : decode cJ13_bitCount_95d88 0 = .ok (.lload_n 0, 1) := by decide +kernel
theorem dJ13_bitCount_95d88_1 : decode cJ13_bitCount_95d88 1 = .ok (.lload_n 0, 1) := by decide +kernel
theorem dJ13_bitCount_95d88_2 : decode cJ13_bitCount_95d88 2 = .ok (.iconst 1, 1) := by decide +kernel
theorem dJ13_bitCount_95d88_3 : decode cJ13_bitCount_95d88 3 = .ok (.lushr, 1) := by decide +kernel
theorem dJ13_bitCount_95d88_4 : decode cJ13_bitCount_95d88 4 = .ok (.ldc2_w 314, 3) := by decide +kernel
theorem dJ13_bitCount_95d88_7 : decode cJ13_bitCount_95d88 7 = .ok (.land, 1) := by decide +kernel
theorem dJ13_bitCount_95d88_8 : decode cJ13_bitCount_95d88 8 = .ok (.lsub, 1) := by decide +kernel
theorem dJ13_bitCount_95d88_9 : decode cJ13_bitCount_95d88 9 = .ok (.lstore_n 0, 1) := by decide +kernel
theorem dJ13_bitCount_95d88_10 : decode cJ13_bitCount_95d88 10 = .ok (.lload_n 0, 1) := by decide +kernel
theorem dJ13_bitCount_95d88_11 : decode cJ13_bitCount_95d88 11 = .ok (.ldc2_w 316, 3) := by decide +kernel
theorem dJ13_bitCount_95d88_14 : decode cJ13_bitCount_95d88 14 = .ok (.land, 1) := by decide +kernel
theorem dJ13_bitCount_95d88_15 : decode cJ13_bitCount_95d88 15 = .ok (.lload_n 0, 1) := by decide +kernel
theorem dJ13_bitCount_95d88_16 : decode cJ13_bitCount_95d88 16 = .ok (.iconst 2, 1) := by decide +kernel
theorem dJ13_bitCount_95d88_17 : decode cJ13_bitCount_95d88 17 = .ok (.lushr, 1) := by decide +kernel
theorem dJ13_bitCount_95d88_18 : decode cJ13_bitCount_95d88 18 = .ok (.ldc2_w 316, 3) := by decide +kernel
theorem dJ13_bitCount_95d88_21 : decode cJ13_bitCount_95d88 21 = .ok (.land, 1) := by decide +kernel
theorem dJ13_bitCount_95d88_22 : decode cJ13_bitCount_95d88 22 = .ok (.ladd, 1) := by decide +kernel
theorem dJ13_bitCount_95d88_23 : decode cJ13_bitCount_95d88 23 = .ok (.lstore_n 0, 1) := by decide +kernel
theorem dJ13_bitCount_95d88_24 : decode cJ13_bitCount_95d88 24 = .ok (.lload_n 0, 1) := by decide +kernel
theorem dJ13_bitCount_95d88_25 : decode cJ13_bitCount_95d88 25 = .ok (.lload_n 0, 1) := by decide +kernel
theorem dJ13_bitCount_95d88_26 : decode cJ13_bitCount_95d88 26 = .ok (.iconst 4, 1) := by decide +kernel
theorem dJ13_bitCount_95d88_27 : decode cJ13_bitCount_95d88 27 = .ok (.lushr, 1) := by decide +kernel
theorem dJ13_bitCount_95d88_28 : decode cJ13_bitCount_95d88 28 = .ok (.ladd, 1) := by decide +kernel
theorem dJ13_bitCount_95d88_29 : decode cJ13_bitCount_95d88 29 = .ok (.ldc2_w 318, 3) := by decide +kernel
theorem dJ13_bitCount_95d88_32 : decode cJ13_bitCount_95d88 32 = .ok (.land, 1) := by decide +kernel
theorem dJ13_bitCount_95d88_33 : decode cJ13_bitCount_95d88 33 = .ok (.lstore_n 0, 1) := by decide +kernel
theorem dJ13_bitCount_95d88_34 : decode cJ13_bitCount_95d88 34 = .ok (.lload_n 0, 1) := by decide +kernel
theorem dJ13_bitCount_95d88_35 : decode cJ13_bitCount_95d88 35 = .ok (.lload_n 0, 1) := by decide +kernel
theorem dJ13_bitCount_95d88_36 : decode cJ13_bitCount_95d88 36 = .ok (.bipush 8, 2) := by decide +kernel
theorem dJ13_bitCount_95d88_38 : decode cJ13_bitCount_95d88 38 = .ok (.lushr, 1) := by decide +kernel
theorem dJ13_bitCount_95d88_39 : decode cJ13_bitCount_95d88 39 = .ok (.ladd, 1) := by decide +kernel
theorem dJ13_bitCount_95d88_40 : decode cJ13_bitCount_95d88 40 = .ok (.lstore_n 0, 1) := by decide +kernel
theorem dJ13_bitCount_95d88_41 : decode cJ13_bitCount_95d88 41 = .ok (.lload_n 0, 1) := by decide +kernel
theorem dJ13_bitCount_95d88_42 : decode cJ13_bitCount_95d88 42 = .ok (.lload_n 0, 1) := by decide +kernel
theorem dJ13_bitCount_95d88_43 : decode cJ13_bitCount_95d88 43 = .ok (.bipush 16, 2) := by decide +kernel
theorem dJ13_bitCount_95d88_45 : decode cJ13_bitCount_95d88 45 = .ok (.lushr, 1) := by decide +kernel
theorem dJ13_bitCount_95d88_46 : decode cJ13_bitCount_95d88 46 = .ok (.ladd, 1) := by decide +kernel
theorem dJ13_bitCount_95d88_47 : decode cJ13_bitCount_95d88 47 = .ok (.lstore_n 0, 1) := by decide +kernel
theorem dJ13_bitCount_95d88_48 : decode cJ13_bitCount_95d88 48 = .ok (.lload_n 0, 1) := by decide +kernel
theorem dJ13_bitCount_95d88_49 : decode cJ13_bitCount_95d88 49 = .ok (.lload_n 0, 1) := by decide +kernel
theorem dJ13_bitCount_95d88_50 : decode cJ13_bitCount_95d88 50 = .ok (.bipush 32, 2) := by decide +kernel
theorem dJ13_bitCount_95d88_52 : decode cJ13_bitCount_95d88 52 = .ok (.lushr, 1) := by decide +kernel
theorem dJ13_bitCount_95d88_53 : decode cJ13_bitCount_95d88 53 = .ok (.ladd, 1) := by decide +kernel
theorem dJ13_bitCount_95d88_54 : decode cJ13_bitCount_95d88 54 = .ok (.lstore_n 0, 1) := by decide +kernel
theorem dJ13_bitCount_95d88_55 : decode cJ13_bitCount_95d88 55 = .ok (.lload_n 0, 1) := by decide +kernel
theorem dJ13_bitCount_95d88_56 : decode cJ13_bitCount_95d88 56 = .ok (.l2i, 1) := by decide +kernel
theorem dJ13_bitCount_95d88_57 : decode cJ13_bitCount_95d88 57 = .ok (.bipush 127, 2) := by decide +kernel
theorem dJ13_bitCount_95d88_59 : decode cJ13_bitCount_95d88 59 = .ok (.iand, 1) := by decide +kernel
theorem dJ13_bitCount_95d88_60 : decode cJ13_bitCount_95d88 60 = .ok (.ireturn, 1) := by decide +kernel
def Lo_bitCountJ_55 (x0 : Int64) : Option Int32 :=
  some (x0.toInt32 &&& (127 : Int32))
set_option maxRecDepth 100000 in
set_option maxHeartbeats 4000000 in
theorem t_Lo_bitCountJ_55 {g : GG} {d : Nat} {μ : Mm} (hd0 : 1 ≤ d) : ∀ (x0 : Int64) (r : Int32), Lo_bitCountJ_55 x0 = some r → Z g d (0, 0) mJ13_bitCount_95d88 333 0 0 55 [(0, .long x0)] [] μ (zF g (some (.int r), μ)) := by
  intro x0 r h
  unfold Lo_bitCountJ_55 at h
  refine z_lload_n dJ13_bitCount_95d88_55 0 rfl ?_
  refine z_l2i dJ13_bitCount_95d88_56 ?_
  refine z_bipush (M := mJ13_bitCount_95d88) (v := 127) dJ13_bitCount_95d88_57 rfl ?_
  refine z_iand dJ13_bitCount_95d88_59 ?_
  cases h
  exact z_iret dJ13_bitCount_95d88_60 rfl
def Lo_bitCountJ_41 (x0 : Int64) : Option Int32 :=
  Lo_bitCountJ_55 ((x0 + (x0.toUInt64 >>> ((16 : Int32).toInt64.toUInt64 &&& Int64.toUInt64 63)).toInt64) + ((x0 + (x0.toUInt64 >>> ((16 : Int32).toInt64.toUInt64 &&& Int64.toUInt64 63)).toInt64).toUInt64 >>> ((32 : Int32).toInt64.toUInt64 &&& Int64.toUInt64 63)).toInt64)
set_option maxRecDepth 100000 in
set_option maxHeartbeats 4000000 in
theorem t_Lo_bitCountJ_41 {g : GG} {d : Nat} {μ : Mm} (hd0 : 1 ≤ d) : ∀ (x0 : Int64) (r : Int32), Lo_bitCountJ_41 x0 = some r → Z g d (0, 0) mJ13_bitCount_95d88 333 0 0 41 [(0, .long x0)] [] μ (zF g (some (.int r), μ)) := by
  intro x0 r h
  unfold Lo_bitCountJ_41 at h
  refine z_lload_n dJ13_bitCount_95d88_41 0 rfl ?_
  refine z_lload_n dJ13_bitCount_95d88_42 0 rfl ?_
  refine z_bipush (M := mJ13_bitCount_95d88) (v := 16) dJ13_bitCount_95d88_43 rfl ?_
  refine z_lushr dJ13_bitCount_95d88_45 ?_
  refine z_ladd dJ13_bitCount_95d88_46 ?_
  refine z_lstore_n (M := mJ13_bitCount_95d88) (lv2 := [(0, .long (x0 + (x0.toUInt64 >>> ((16 : Int32).toInt64.toUInt64 &&& Int64.toUInt64 63)).toInt64))]) dJ13_bitCount_95d88_47 (Nat.le_of_ble_eq_true rfl) rfl ?_
  refine z_lload_n dJ13_bitCount_95d88_48 0 rfl ?_
  refine z_lload_n dJ13_bitCount_95d88_49 0 rfl ?_
  refine z_bipush (M := mJ13_bitCount_95d88) (v := 32) dJ13_bitCount_95d88_50 rfl ?_
  refine z_lushr dJ13_bitCount_95d88_52 ?_
  refine z_ladd dJ13_bitCount_95d88_53 ?_
  refine z_lstore_n (M := mJ13_bitCount_95d88) (lv2 := [(0, .long ((x0 + (x0.toUInt64 >>> ((16 : Int32).toInt64.toUInt64 &&& Int64.toUInt64 63)).toInt64) + ((x0 + (x0.toUInt64 >>> ((16 : Int32).toInt64.toUInt64 &&& Int64.toUInt64 63)).toInt64).toUInt64 >>> ((32 : Int32).toInt64.toUInt64 &&& Int64.toUInt64 63)).toInt64))]) dJ13_bitCount_95d88_54 (Nat.le_of_ble_eq_true rfl) rfl ?_
  exact t_Lo_bitCountJ_55 hd0  ((x0 + (x0.toUInt64 >>> ((16 : Int32).toInt64.toUInt64 &&& Int64.toUInt64 63)).toInt64) + ((x0 + (x0.toUInt64 >>> ((16 : Int32).toInt64.toUInt64 &&& Int64.toUInt64 63)).toInt64).toUInt64 >>> ((32 : Int32).toInt64.toUInt64 &&& Int64.toUInt64 63)).toInt64) _ h
def Lo_bitCountJ_24 (x0 : Int64) : Option Int32 :=
  Lo_bitCountJ_41 (((x0 + (x0.toUInt64 >>> ((4 : Int32).toInt64.toUInt64 &&& Int64.toUInt64 63)).toInt64) &&& (1085102592571150095 : Int64)) + (((x0 + (x0.toUInt64 >>> ((4 : Int32).toInt64.toUInt64 &&& Int64.toUInt64 63)).toInt64) &&& (1085102592571150095 : Int64)).toUInt64 >>> ((8 : Int32).toInt64.toUInt64 &&& Int64.toUInt64 63)).toInt64)
set_option maxRecDepth 100000 in
set_option maxHeartbeats 4000000 in
theorem t_Lo_bitCountJ_24 {g : GG} {d : Nat} {μ : Mm} (hd0 : 1 ≤ d) : ∀ (x0 : Int64) (r : Int32), Lo_bitCountJ_24 x0 = some r → Z g d (0, 0) mJ13_bitCount_95d88 333 0 0 24 [(0, .long x0)] [] μ (zF g (some (.int r), μ)) := by
  intro x0 r h
  unfold Lo_bitCountJ_24 at h
  refine z_lload_n dJ13_bitCount_95d88_24 0 rfl ?_
  refine z_lload_n dJ13_bitCount_95d88_25 0 rfl ?_
  refine z_iconst (M := mJ13_bitCount_95d88) (v := 4) dJ13_bitCount_95d88_26 rfl ?_
  refine z_lushr dJ13_bitCount_95d88_27 ?_
  refine z_ladd dJ13_bitCount_95d88_28 ?_
  refine z_ldc2 dJ13_bitCount_95d88_29 csRJ13_318 ?_
  refine z_land dJ13_bitCount_95d88_32 ?_
  refine z_lstore_n (M := mJ13_bitCount_95d88) (lv2 := [(0, .long ((x0 + (x0.toUInt64 >>> ((4 : Int32).toInt64.toUInt64 &&& Int64.toUInt64 63)).toInt64) &&& (1085102592571150095 : Int64)))]) dJ13_bitCount_95d88_33 (Nat.le_of_ble_eq_true rfl) rfl ?_
  refine z_lload_n dJ13_bitCount_95d88_34 0 rfl ?_
  refine z_lload_n dJ13_bitCount_95d88_35 0 rfl ?_
  refine z_bipush (M := mJ13_bitCount_95d88) (v := 8) dJ13_bitCount_95d88_36 rfl ?_
  refine z_lushr dJ13_bitCount_95d88_38 ?_
  refine z_ladd dJ13_bitCount_95d88_39 ?_
  refine z_lstore_n (M := mJ13_bitCount_95d88) (lv2 := [(0, .long (((x0 + (x0.toUInt64 >>> ((4 : Int32).toInt64.toUInt64 &&& Int64.toUInt64 63)).toInt64) &&& (1085102592571150095 : Int64)) + (((x0 + (x0.toUInt64 >>> ((4 : Int32).toInt64.toUInt64 &&& Int64.toUInt64 63)).toInt64) &&& (1085102592571150095 : Int64)).toUInt64 >>> ((8 : Int32).toInt64.toUInt64 &&& Int64.toUInt64 63)).toInt64))]) dJ13_bitCount_95d88_40 (Nat.le_of_ble_eq_true rfl) rfl ?_
  exact t_Lo_bitCountJ_41 hd0  (((x0 + (x0.toUInt64 >>> ((4 : Int32).toInt64.toUInt64 &&& Int64.toUInt64 63)).toInt64) &&& (1085102592571150095 : Int64)) + (((x0 + (x0.toUInt64 >>> ((4 : Int32).toInt64.toUInt64 &&& Int64.toUInt64 63)).toInt64) &&& (1085102592571150095 : Int64)).toUInt64 >>> ((8 : Int32).toInt64.toUInt64 &&& Int64.toUInt64 63)).toInt64) _ h
def Lo_bitCountJ (x0 : Int64) : Option Int32 :=
  Lo_bitCountJ_24 (((x0 - ((x0.toUInt64 >>> ((1 : Int32).toInt64.toUInt64 &&& Int64.toUInt64 63)).toInt64 &&& (6148914691236517205 : Int64))) &&& (3689348814741910323 : Int64)) + (((x0 - ((x0.toUInt64 >>> ((1 : Int32).toInt64.toUInt64 &&& Int64.toUInt64 63)).toInt64 &&& (6148914691236517205 : Int64))).toUInt64 >>> ((2 : Int32).toInt64.toUInt64 &&& Int64.toUInt64 63)).toInt64 &&& (3689348814741910323 : Int64)))
set_option maxRecDepth 100000 in
set_option maxHeartbeats 4000000 in
theorem t_Lo_bitCountJ {g : GG} {d : Nat} {μ : Mm} (hd0 : 1 ≤ d) : ∀ (x0 : Int64) (r : Int32), Lo_bitCountJ x0 = some r → Z g d (0, 0) mJ13_bitCount_95d88 333 0 0 0 [(0, .long x0)] [] μ (zF g (some (.int r), μ)) := by
  intro x0 r h
  unfold Lo_bitCountJ at h
  refine z_lload_n dJ13_bitCount_95d88_0 0 rfl ?_
  refine z_lload_n dJ13_bitCount_95d88_1 0 rfl ?_
  refine z_iconst (M := mJ13_bitCount_95d88) (v := 1) dJ13_bitCount_95d88_2 rfl ?_
  refine z_lushr dJ13_bitCount_95d88_3 ?_
  refine z_ldc2 dJ13_bitCount_95d88_4 csRJ13_314 ?_
  refine z_land dJ13_bitCount_95d88_7 ?_
  refine z_lsub dJ13_bitCount_95d88_8 ?_
  refine z_lstore_n (M := mJ13_bitCount_95d88) (lv2 := [(0, .long (x0 - ((x0.toUInt64 >>> ((1 : Int32).toInt64.toUInt64 &&& Int64.toUInt64 63)).toInt64 &&& (6148914691236517205 : Int64))))]) dJ13_bitCount_95d88_9 (Nat.le_of_ble_eq_true rfl) rfl ?_
  refine z_lload_n dJ13_bitCount_95d88_10 0 rfl ?_
  refine z_ldc2 dJ13_bitCount_95d88_11 csRJ13_316 ?_
  refine z_land dJ13_bitCount_95d88_14 ?_
  refine z_lload_n dJ13_bitCount_95d88_15 0 rfl ?_
  refine z_iconst (M := mJ13_bitCount_95d88) (v := 2) dJ13_bitCount_95d88_16 rfl ?_
  refine z_lushr dJ13_bitCount_95d88_17 ?_
  refine z_ldc2 dJ13_bitCount_95d88_18 csRJ13_316 ?_
  refine z_land dJ13_bitCount_95d88_21 ?_
  refine z_ladd dJ13_bitCount_95d88_22 ?_
  refine z_lstore_n (M := mJ13_bitCount_95d88) (lv2 := [(0, .long (((x0 - ((x0.toUInt64 >>> ((1 : Int32).toInt64.toUInt64 &&& Int64.toUInt64 63)).toInt64 &&& (6148914691236517205 : Int64))) &&& (3689348814741910323 : Int64)) + (((x0 - ((x0.toUInt64 >>> ((1 : Int32).toInt64.toUInt64 &&& Int64.toUInt64 63)).toInt64 &&& (6148914691236517205 : Int64))).toUInt64 >>> ((2 : Int32).toInt64.toUInt64 &&& Int64.toUInt64 63)).toInt64 &&& (3689348814741910323 : Int64))))]) dJ13_bitCount_95d88_23 (Nat.le_of_ble_eq_true rfl) rfl ?_
  exact t_Lo_bitCountJ_24 hd0  (((x0 - ((x0.toUInt64 >>> ((1 : Int32).toInt64.toUInt64 &&& Int64.toUInt64 63)).toInt64 &&& (6148914691236517205 : Int64))) &&& (3689348814741910323 : Int64)) + (((x0 - ((x0.toUInt64 >>> ((1 : Int32).toInt64.toUInt64 &&& Int64.toUInt64 63)).toInt64 &&& (6148914691236517205 : Int64))).toUInt64 >>> ((2 : Int32).toInt64.toUInt64 &&& Int64.toUInt64 63)).toInt64 &&& (3689348814741910323 : Int64))) _ h
theorem ct_Lo_bitCountJ {g : GG} {d : Nat} {x0 : Int64} {μ : Mm} {r : Int32} (hd0 : 1 ≤ d)  (h : Lo_bitCountJ x0 = some r) : Ct g d mJ13_bitCount_95d88 [.long x0] μ (some (.int r), μ) := y_entry in_J13_bitCount_95d88 (Nat.le_of_ble_eq_true rfl) rfl (t_Lo_bitCountJ hd0 x0 r h)
-- FuseMinutes.within(III)Z
theorem dX11_within_0 : decode cX11_within 0 = .ok (.iload_n 0, 1) := by decide +kernel
theorem dX11_within_1 : decode cX11_within 1 = .ok (.iload_n 1, 1) := by decide +kernel
theorem dX11_within_2 : decode cX11_within 2 = .ok (.if_icmp .lt 12, 3) := by decide +kernel
theorem dX11_within_5 : decode cX11_within 5 = .ok (.iload_n 0, 1) := by decide +kernel
theorem dX11_within_6 : decode cX11_within 6 = .ok (.iload_n 2, 1) := by decide +kernel
theorem dX11_within_7 : decode cX11_within 7 = .ok (.if_icmp .gt 7, 3) := by decide +kernel
theorem dX11_within_10 : decode cX11_within 10 = .ok (.iconst 1, 1) := by decide +kernel
theorem dX11_within_11 : decode cX11_within 11 = .ok (.goto 4, 3) := by decide +kernel
theorem dX11_within_14 : decode cX11_within 14 = .ok (.iconst 0, 1) := by decide +kernel
theorem dX11_within_15 : decode cX11_within 15 = .ok (.ireturn, 1) := by decide +kernel
def Fm_within (x0 : Int32) (x1 : Int32) (x2 : Int32) : Option Bool :=
  (if x0 < x1 then
    some false
  else
    (if x2 < x0 then
      some false
    else
      some true))
set_option maxRecDepth 100000 in
set_option maxHeartbeats 4000000 in
theorem t_Fm_within {g : GG} {d : Nat} {μ : Mm} (hd0 : 1 ≤ d) : ∀ (x0 : Int32) (x1 : Int32) (x2 : Int32) (r : Bool), Fm_within x0 x1 x2 = some r → Z g d (0, 0) mX11_within 333 0 0 0 [(0, .int x0), (1, .int x1), (2, .int x2)] [] μ (zF g (some (.int (b2i r)), μ)) := by
  intro x0 x1 x2 r h
  unfold Fm_within at h
  refine z_iload_n dX11_within_0 0 rfl ?_
  refine z_iload_n dX11_within_1 1 rfl ?_
  refine z_icmp_lt 14 dX11_within_2 rfl (fun hc1 => ?_) (fun hc1 => ?_)
  · replace h := oT hc1 h
    refine z_iconst (M := mX11_within) (v := 0) dX11_within_14 rfl ?_
    cases h
    exact z_zret dX11_within_15 rfl rfl
  · replace h := oF hc1 h
    refine z_iload_n dX11_within_5 0 rfl ?_
    refine z_iload_n dX11_within_6 2 rfl ?_
    refine z_icmp_gt 14 dX11_within_7 rfl (fun hc2 => ?_) (fun hc2 => ?_)
    · replace h := oT hc2 h
      refine z_iconst (M := mX11_within) (v := 0) dX11_within_14 rfl ?_
      cases h
      exact z_zret dX11_within_15 rfl rfl
    · replace h := oF hc2 h
      refine z_iconst (M := mX11_within) (v := 1) dX11_within_10 rfl ?_
      refine z_goto 15 dX11_within_11 rfl ?_
      cases h
      exact z_zret dX11_within_15 rfl rfl
theorem ct_Fm_within {g : GG} {d : Nat} {x0 : Int32} {x1 : Int32} {x2 : Int32} {μ : Mm} {r : Bool} (hd0 : 1 ≤ d)  (h : Fm_within x0 x1 x2 = some r) : Ct g d mX11_within [.int x0, .int x1, .int x2] μ (some (.int (b2i r)), μ) := y_entry in_X11_within (Nat.le_of_ble_eq_true rfl) rfl (t_Fm_within hd0 x0 x1 x2 r h)
-- FuseMinutes.isSpan(I)Z
theorem dX11_isSpan_0 : decode cX11_isSpan 0 = .ok (.iload_n 0, 1) := by decide +kernel
theorem dX11_isSpan_1 : decode cX11_isSpan 1 = .ok (.iconst 1, 1) := by decide +kernel
theorem dX11_isSpan_2 : decode cX11_isSpan 2 = .ok (.sipush 15360, 3) := by decide +kernel
theorem dX11_isSpan_5 : decode cX11_isSpan 5 = .ok (.invokestatic 72, 3) := by decide +kernel
theorem dX11_isSpan_8 : decode cX11_isSpan 8 = .ok (.ireturn, 1) := by decide +kernel
def Fm_isSpan (x0 : Int32) : Option Bool :=
  (Fm_within x0 (1 : Int32) (15360 : Int32)).bind fun v1 =>
  some v1
set_option maxRecDepth 100000 in
set_option maxHeartbeats 4000000 in
theorem t_Fm_isSpan {g : GG} {d : Nat} {μ : Mm} (hd0 : 2 ≤ d) : ∀ (x0 : Int32) (r : Bool), Fm_isSpan x0 = some r → Z g d (0, 0) mX11_isSpan 333 0 0 0 [(0, .int x0)] [] μ (zF g (some (.int (b2i r)), μ)) := by
  intro x0 r h
  unfold Fm_isSpan at h
  refine z_iload_n dX11_isSpan_0 0 rfl ?_
  refine z_iconst (M := mX11_isSpan) (v := 1) dX11_isSpan_1 rfl ?_
  refine z_sipush (M := mX11_isSpan) (v := 15360) dX11_isSpan_2 rfl ?_
  obtain ⟨v1, he1, h⟩ := obind h
  refine y_Si (M := mX11_isSpan) (Y := mX11_within) (d2 := d - 1) (As := [.int x0, .int (1 : Int32), .int (15360 : Int32)]) (st := []) dX11_isSpan_5 mlRX11_72 cv_X11_within (ct_Fm_within (dle (Nat.le_of_ble_eq_true rfl) hd0) he1) (dps (Nat.le_of_ble_eq_true rfl) hd0) rfl rfl (Nat.le_of_ble_eq_true rfl) ?_
  cases h
  exact z_zret dX11_isSpan_8 rfl (nar_b2i _)
theorem ct_Fm_isSpan {g : GG} {d : Nat} {x0 : Int32} {μ : Mm} {r : Bool} (hd0 : 2 ≤ d)  (h : Fm_isSpan x0 = some r) : Ct g d mX11_isSpan [.int x0] μ (some (.int (b2i r)), μ) := y_entry in_X11_isSpan (Nat.le_of_ble_eq_true rfl) rfl (t_Fm_isSpan hd0 x0 r h)
end
