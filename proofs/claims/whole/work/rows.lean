section
-- ===== PART A: goes FIRST, ahead of the names: the tables' words, and 'selects' of the private methods out of them =====
/-- a private method of a class that the tables say can be made, by its rows of tables_1 -/
def lw_okq (q : MethodName × Nat) : Prop := (q.1.cls ≠ "java/lang/invoke/MethodHandle" ∧ q.1.cls ≠ "java/lang/invoke/VarHandle") ∧ Cond.instantiable q.1.cls q.2 ∈ tables_1 ∧ Cond.privateMethod q.1 ∈ tables_1 ∧ Cond.instanceMethod q.1 ∈ tables_1
theorem lw_p0 : lw_okq (⟨"java/lang/Throwable", "fillInStackTrace", "(I)Ljava/lang/Throwable;"⟩, 6) := ⟨⟨by decide +kernel, by decide +kernel⟩, List.mem_of_getElem? (i := 307) (by decide +kernel), List.mem_of_getElem? (i := 305) (by decide +kernel), List.mem_of_getElem? (i := 306) (by decide +kernel)⟩
theorem lw_p1 : lw_okq (⟨"Stavehouse", "needSlot", "(II)I"⟩, 7) := ⟨⟨by decide +kernel, by decide +kernel⟩, List.mem_of_getElem? (i := 18) (by decide +kernel), List.mem_of_getElem? (i := 365) (by decide +kernel), List.mem_of_getElem? (i := 366) (by decide +kernel)⟩
theorem lw_p2 : lw_okq (⟨"Stavehouse", "deskHasPart", "(II)Z"⟩, 7) := ⟨⟨by decide +kernel, by decide +kernel⟩, List.mem_of_getElem? (i := 18) (by decide +kernel), List.mem_of_getElem? (i := 454) (by decide +kernel), List.mem_of_getElem? (i := 455) (by decide +kernel)⟩
theorem lw_p3 : lw_okq (⟨"Stavehouse$Copy", "scoreVersion", "(I)I"⟩, 4) := ⟨⟨by decide +kernel, by decide +kernel⟩, List.mem_of_getElem? (i := 181) (by decide +kernel), List.mem_of_getElem? (i := 463) (by decide +kernel), List.mem_of_getElem? (i := 464) (by decide +kernel)⟩
theorem lw_p4 : lw_okq (⟨"Stavehouse", "copiesOut", "()I"⟩, 7) := ⟨⟨by decide +kernel, by decide +kernel⟩, List.mem_of_getElem? (i := 18) (by decide +kernel), List.mem_of_getElem? (i := 468) (by decide +kernel), List.mem_of_getElem? (i := 469) (by decide +kernel)⟩
theorem lw_p5 : lw_okq (⟨"Stavehouse", "needCopyOut", "(I)LStavehouse$Copy;"⟩, 7) := ⟨⟨by decide +kernel, by decide +kernel⟩, List.mem_of_getElem? (i := 18) (by decide +kernel), List.mem_of_getElem? (i := 479) (by decide +kernel), List.mem_of_getElem? (i := 480) (by decide +kernel)⟩
theorem lw_p6 : lw_okq (⟨"Stavehouse", "anyCopyOwes", "()Z"⟩, 7) := ⟨⟨by decide +kernel, by decide +kernel⟩, List.mem_of_getElem? (i := 18) (by decide +kernel), List.mem_of_getElem? (i := 546) (by decide +kernel), List.mem_of_getElem? (i := 547) (by decide +kernel)⟩
theorem lw_p7 : lw_okq (⟨"Stavehouse", "openBook", "(I)V"⟩, 7) := ⟨⟨by decide +kernel, by decide +kernel⟩, List.mem_of_getElem? (i := 18) (by decide +kernel), List.mem_of_getElem? (i := 602) (by decide +kernel), List.mem_of_getElem? (i := 603) (by decide +kernel)⟩
theorem lw_p8 : lw_okq (⟨"Stavehouse$Book", "drawerOf", "(I)I"⟩, 9) := ⟨⟨by decide +kernel, by decide +kernel⟩, List.mem_of_getElem? (i := 66) (by decide +kernel), List.mem_of_getElem? (i := 610) (by decide +kernel), List.mem_of_getElem? (i := 611) (by decide +kernel)⟩
theorem lw_p9 : lw_okq (⟨"Stavehouse$Book", "addItem", "(II)V"⟩, 9) := ⟨⟨by decide +kernel, by decide +kernel⟩, List.mem_of_getElem? (i := 66) (by decide +kernel), List.mem_of_getElem? (i := 625) (by decide +kernel), List.mem_of_getElem? (i := 626) (by decide +kernel)⟩
theorem lw_p10 : lw_okq (⟨"Stavehouse$Springs", "addSpring", "(III)V"⟩, 5) := ⟨⟨by decide +kernel, by decide +kernel⟩, List.mem_of_getElem? (i := 72) (by decide +kernel), List.mem_of_getElem? (i := 633) (by decide +kernel), List.mem_of_getElem? (i := 634) (by decide +kernel)⟩
theorem lw_p11 : lw_okq (⟨"Stavehouse$Springs", "addPlaces", "(LStavehouse$Score;II)V"⟩, 5) := ⟨⟨by decide +kernel, by decide +kernel⟩, List.mem_of_getElem? (i := 72) (by decide +kernel), List.mem_of_getElem? (i := 641) (by decide +kernel), List.mem_of_getElem? (i := 642) (by decide +kernel)⟩
theorem lw_p12 : lw_okq (⟨"Stavehouse$Springs", "addPlace", "(IZ)V"⟩, 5) := ⟨⟨by decide +kernel, by decide +kernel⟩, List.mem_of_getElem? (i := 72) (by decide +kernel), List.mem_of_getElem? (i := 646) (by decide +kernel), List.mem_of_getElem? (i := 647) (by decide +kernel)⟩
theorem lw_p13 : lw_okq (⟨"Stavehouse$Springs", "addSprings", "(I)V"⟩, 5) := ⟨⟨by decide +kernel, by decide +kernel⟩, List.mem_of_getElem? (i := 72) (by decide +kernel), List.mem_of_getElem? (i := 651) (by decide +kernel), List.mem_of_getElem? (i := 652) (by decide +kernel)⟩
theorem lw_p14 : lw_okq (⟨"Stavehouse$Springs", "nextPlace", "(II)I"⟩, 5) := ⟨⟨by decide +kernel, by decide +kernel⟩, List.mem_of_getElem? (i := 72) (by decide +kernel), List.mem_of_getElem? (i := 655) (by decide +kernel), List.mem_of_getElem? (i := 656) (by decide +kernel)⟩
theorem lw_p15 : lw_okq (⟨"Stavehouse", "breakBook", "(I)V"⟩, 7) := ⟨⟨by decide +kernel, by decide +kernel⟩, List.mem_of_getElem? (i := 18) (by decide +kernel), List.mem_of_getElem? (i := 706) (by decide +kernel), List.mem_of_getElem? (i := 707) (by decide +kernel)⟩
def lw_privs_1 : List (MethodName × Nat) := [(⟨"java/lang/Throwable", "fillInStackTrace", "(I)Ljava/lang/Throwable;"⟩, 6), (⟨"Stavehouse", "needSlot", "(II)I"⟩, 7), (⟨"Stavehouse", "deskHasPart", "(II)Z"⟩, 7), (⟨"Stavehouse$Copy", "scoreVersion", "(I)I"⟩, 4), (⟨"Stavehouse", "copiesOut", "()I"⟩, 7), (⟨"Stavehouse", "needCopyOut", "(I)LStavehouse$Copy;"⟩, 7), (⟨"Stavehouse", "anyCopyOwes", "()Z"⟩, 7), (⟨"Stavehouse", "openBook", "(I)V"⟩, 7), (⟨"Stavehouse$Book", "drawerOf", "(I)I"⟩, 9), (⟨"Stavehouse$Book", "addItem", "(II)V"⟩, 9), (⟨"Stavehouse$Springs", "addSpring", "(III)V"⟩, 5), (⟨"Stavehouse$Springs", "addPlaces", "(LStavehouse$Score;II)V"⟩, 5), (⟨"Stavehouse$Springs", "addPlace", "(IZ)V"⟩, 5), (⟨"Stavehouse$Springs", "addSprings", "(I)V"⟩, 5), (⟨"Stavehouse$Springs", "nextPlace", "(II)I"⟩, 5), (⟨"Stavehouse", "breakBook", "(I)V"⟩, 7)]
theorem lw_r1 : ∀ q ∈ lw_privs_1, lw_okq q := List.forall_mem_cons.mpr ⟨lw_p0, List.forall_mem_cons.mpr ⟨lw_p1, List.forall_mem_cons.mpr ⟨lw_p2, List.forall_mem_cons.mpr ⟨lw_p3, List.forall_mem_cons.mpr ⟨lw_p4, List.forall_mem_cons.mpr ⟨lw_p5, List.forall_mem_cons.mpr ⟨lw_p6, List.forall_mem_cons.mpr ⟨lw_p7, List.forall_mem_cons.mpr ⟨lw_p8, List.forall_mem_cons.mpr ⟨lw_p9, List.forall_mem_cons.mpr ⟨lw_p10, List.forall_mem_cons.mpr ⟨lw_p11, List.forall_mem_cons.mpr ⟨lw_p12, List.forall_mem_cons.mpr ⟨lw_p13, List.forall_mem_cons.mpr ⟨lw_p14, List.forall_mem_cons.mpr ⟨lw_p15, fun _ h => absurd h List.not_mem_nil⟩⟩⟩⟩⟩⟩⟩⟩⟩⟩⟩⟩⟩⟩⟩⟩
theorem lw_p16 : lw_okq (⟨"Stavehouse$Paper", "priceTurns", "()V"⟩, 11) := ⟨⟨by decide +kernel, by decide +kernel⟩, List.mem_of_getElem? (i := 133) (by decide +kernel), List.mem_of_getElem? (i := 714) (by decide +kernel), List.mem_of_getElem? (i := 715) (by decide +kernel)⟩
theorem lw_p17 : lw_okq (⟨"Stavehouse$Score", "silenceAtEnd", "(II)I"⟩, 7) := ⟨⟨by decide +kernel, by decide +kernel⟩, List.mem_of_getElem? (i := 26) (by decide +kernel), List.mem_of_getElem? (i := 723) (by decide +kernel), List.mem_of_getElem? (i := 724) (by decide +kernel)⟩
theorem lw_p18 : lw_okq (⟨"Stavehouse$Score", "silenceAtBeginning", "(II)I"⟩, 7) := ⟨⟨by decide +kernel, by decide +kernel⟩, List.mem_of_getElem? (i := 26) (by decide +kernel), List.mem_of_getElem? (i := 727) (by decide +kernel), List.mem_of_getElem? (i := 728) (by decide +kernel)⟩
theorem lw_p19 : lw_okq (⟨"Stavehouse$Paper", "chooseLine", "(II)V"⟩, 11) := ⟨⟨by decide +kernel, by decide +kernel⟩, List.mem_of_getElem? (i := 133) (by decide +kernel), List.mem_of_getElem? (i := 732) (by decide +kernel), List.mem_of_getElem? (i := 733) (by decide +kernel)⟩
theorem lw_p20 : lw_okq (⟨"Stavehouse$Paper", "nextOnPage", "(I)I"⟩, 11) := ⟨⟨by decide +kernel, by decide +kernel⟩, List.mem_of_getElem? (i := 133) (by decide +kernel), List.mem_of_getElem? (i := 736) (by decide +kernel), List.mem_of_getElem? (i := 737) (by decide +kernel)⟩
theorem lw_p21 : lw_okq (⟨"Stavehouse$Paper", "mayBeLine", "(II)Z"⟩, 11) := ⟨⟨by decide +kernel, by decide +kernel⟩, List.mem_of_getElem? (i := 133) (by decide +kernel), List.mem_of_getElem? (i := 741) (by decide +kernel), List.mem_of_getElem? (i := 742) (by decide +kernel)⟩
theorem lw_p22 : lw_okq (⟨"Stavehouse$Paper", "badness", "(II)I"⟩, 11) := ⟨⟨by decide +kernel, by decide +kernel⟩, List.mem_of_getElem? (i := 133) (by decide +kernel), List.mem_of_getElem? (i := 749) (by decide +kernel), List.mem_of_getElem? (i := 750) (by decide +kernel)⟩
theorem lw_p23 : lw_okq (⟨"Stavehouse$Paper", "turnAhead", "(II)I"⟩, 11) := ⟨⟨by decide +kernel, by decide +kernel⟩, List.mem_of_getElem? (i := 133) (by decide +kernel), List.mem_of_getElem? (i := 754) (by decide +kernel), List.mem_of_getElem? (i := 755) (by decide +kernel)⟩
theorem lw_p24 : lw_okq (⟨"Stavehouse$Paper", "setLines", "()V"⟩, 11) := ⟨⟨by decide +kernel, by decide +kernel⟩, List.mem_of_getElem? (i := 133) (by decide +kernel), List.mem_of_getElem? (i := 758) (by decide +kernel), List.mem_of_getElem? (i := 759) (by decide +kernel)⟩
theorem lw_p25 : lw_okq (⟨"Stavehouse$Paper", "leastOfAllWays", "(III)I"⟩, 11) := ⟨⟨by decide +kernel, by decide +kernel⟩, List.mem_of_getElem? (i := 133) (by decide +kernel), List.mem_of_getElem? (i := 791) (by decide +kernel), List.mem_of_getElem? (i := 792) (by decide +kernel)⟩
theorem lw_p26 : lw_okq (⟨"Stavehouse$Paper", "shrunkAhead", "(IIII)I"⟩, 11) := ⟨⟨by decide +kernel, by decide +kernel⟩, List.mem_of_getElem? (i := 133) (by decide +kernel), List.mem_of_getElem? (i := 825) (by decide +kernel), List.mem_of_getElem? (i := 826) (by decide +kernel)⟩
theorem lw_p27 : lw_okq (⟨"Stavehouse$Paper", "stretchedAhead", "(IIII)I"⟩, 11) := ⟨⟨by decide +kernel, by decide +kernel⟩, List.mem_of_getElem? (i := 133) (by decide +kernel), List.mem_of_getElem? (i := 829) (by decide +kernel), List.mem_of_getElem? (i := 830) (by decide +kernel)⟩
theorem lw_p28 : lw_okq (⟨"Stavehouse", "clashesAt", "(LStavehouse$Desk;LStavehouse$Desk;I)I"⟩, 7) := ⟨⟨by decide +kernel, by decide +kernel⟩, List.mem_of_getElem? (i := 18) (by decide +kernel), List.mem_of_getElem? (i := 879) (by decide +kernel), List.mem_of_getElem? (i := 880) (by decide +kernel)⟩
theorem lw_p29 : lw_okq (⟨"StavehouseModel", "goes", "(ZZZ)Z"⟩, 34) := ⟨⟨by decide +kernel, by decide +kernel⟩, List.mem_of_getElem? (i := 884) (by decide +kernel), List.mem_of_getElem? (i := 1004) (by decide +kernel), List.mem_of_getElem? (i := 1005) (by decide +kernel)⟩
theorem lw_p30 : lw_okq (⟨"StavehouseModel", "isBar", "(I)Z"⟩, 34) := ⟨⟨by decide +kernel, by decide +kernel⟩, List.mem_of_getElem? (i := 884) (by decide +kernel), List.mem_of_getElem? (i := 1015) (by decide +kernel), List.mem_of_getElem? (i := 1016) (by decide +kernel)⟩
theorem lw_p31 : lw_okq (⟨"StavehouseModel", "filled", "(II)I"⟩, 34) := ⟨⟨by decide +kernel, by decide +kernel⟩, List.mem_of_getElem? (i := 884) (by decide +kernel), List.mem_of_getElem? (i := 1022) (by decide +kernel), List.mem_of_getElem? (i := 1023) (by decide +kernel)⟩
def lw_privs_2 : List (MethodName × Nat) := [(⟨"Stavehouse$Paper", "priceTurns", "()V"⟩, 11), (⟨"Stavehouse$Score", "silenceAtEnd", "(II)I"⟩, 7), (⟨"Stavehouse$Score", "silenceAtBeginning", "(II)I"⟩, 7), (⟨"Stavehouse$Paper", "chooseLine", "(II)V"⟩, 11), (⟨"Stavehouse$Paper", "nextOnPage", "(I)I"⟩, 11), (⟨"Stavehouse$Paper", "mayBeLine", "(II)Z"⟩, 11), (⟨"Stavehouse$Paper", "badness", "(II)I"⟩, 11), (⟨"Stavehouse$Paper", "turnAhead", "(II)I"⟩, 11), (⟨"Stavehouse$Paper", "setLines", "()V"⟩, 11), (⟨"Stavehouse$Paper", "leastOfAllWays", "(III)I"⟩, 11), (⟨"Stavehouse$Paper", "shrunkAhead", "(IIII)I"⟩, 11), (⟨"Stavehouse$Paper", "stretchedAhead", "(IIII)I"⟩, 11), (⟨"Stavehouse", "clashesAt", "(LStavehouse$Desk;LStavehouse$Desk;I)I"⟩, 7), (⟨"StavehouseModel", "goes", "(ZZZ)Z"⟩, 34), (⟨"StavehouseModel", "isBar", "(I)Z"⟩, 34), (⟨"StavehouseModel", "filled", "(II)I"⟩, 34)]
theorem lw_r2 : ∀ q ∈ lw_privs_2, lw_okq q := List.forall_mem_cons.mpr ⟨lw_p16, List.forall_mem_cons.mpr ⟨lw_p17, List.forall_mem_cons.mpr ⟨lw_p18, List.forall_mem_cons.mpr ⟨lw_p19, List.forall_mem_cons.mpr ⟨lw_p20, List.forall_mem_cons.mpr ⟨lw_p21, List.forall_mem_cons.mpr ⟨lw_p22, List.forall_mem_cons.mpr ⟨lw_p23, List.forall_mem_cons.mpr ⟨lw_p24, List.forall_mem_cons.mpr ⟨lw_p25, List.forall_mem_cons.mpr ⟨lw_p26, List.forall_mem_cons.mpr ⟨lw_p27, List.forall_mem_cons.mpr ⟨lw_p28, List.forall_mem_cons.mpr ⟨lw_p29, List.forall_mem_cons.mpr ⟨lw_p30, List.forall_mem_cons.mpr ⟨lw_p31, fun _ h => absurd h List.not_mem_nil⟩⟩⟩⟩⟩⟩⟩⟩⟩⟩⟩⟩⟩⟩⟩⟩
theorem lw_p32 : lw_okq (⟨"StavehouseModel", "isNote", "(III)Z"⟩, 34) := ⟨⟨by decide +kernel, by decide +kernel⟩, List.mem_of_getElem? (i := 884) (by decide +kernel), List.mem_of_getElem? (i := 1030) (by decide +kernel), List.mem_of_getElem? (i := 1031) (by decide +kernel)⟩
theorem lw_p33 : lw_okq (⟨"StavehouseModel", "isCopy", "(I)Z"⟩, 34) := ⟨⟨by decide +kernel, by decide +kernel⟩, List.mem_of_getElem? (i := 884) (by decide +kernel), List.mem_of_getElem? (i := 1050) (by decide +kernel), List.mem_of_getElem? (i := 1051) (by decide +kernel)⟩
theorem lw_p34 : lw_okq (⟨"StavehouseModel", "renews", "(I)V"⟩, 34) := ⟨⟨by decide +kernel, by decide +kernel⟩, List.mem_of_getElem? (i := 884) (by decide +kernel), List.mem_of_getElem? (i := 1054) (by decide +kernel), List.mem_of_getElem? (i := 1055) (by decide +kernel)⟩
theorem lw_p35 : lw_okq (⟨"StavehouseModel", "away", "()I"⟩, 34) := ⟨⟨by decide +kernel, by decide +kernel⟩, List.mem_of_getElem? (i := 884) (by decide +kernel), List.mem_of_getElem? (i := 1058) (by decide +kernel), List.mem_of_getElem? (i := 1059) (by decide +kernel)⟩
theorem lw_p36 : lw_okq (⟨"StavehouseModel", "isAway", "(I)Z"⟩, 34) := ⟨⟨by decide +kernel, by decide +kernel⟩, List.mem_of_getElem? (i := 884) (by decide +kernel), List.mem_of_getElem? (i := 1066) (by decide +kernel), List.mem_of_getElem? (i := 1067) (by decide +kernel)⟩
theorem lw_p37 : lw_okq (⟨"StavehouseModel", "owedBy", "(I)I"⟩, 34) := ⟨⟨by decide +kernel, by decide +kernel⟩, List.mem_of_getElem? (i := 884) (by decide +kernel), List.mem_of_getElem? (i := 1070) (by decide +kernel), List.mem_of_getElem? (i := 1071) (by decide +kernel)⟩
theorem lw_p38 : lw_okq (⟨"StavehouseModel", "owes", "(II)Z"⟩, 34) := ⟨⟨by decide +kernel, by decide +kernel⟩, List.mem_of_getElem? (i := 884) (by decide +kernel), List.mem_of_getElem? (i := 1074) (by decide +kernel), List.mem_of_getElem? (i := 1075) (by decide +kernel)⟩
theorem lw_p39 : lw_okq (⟨"StavehouseModel", "bowing", "(III)I"⟩, 34) := ⟨⟨by decide +kernel, by decide +kernel⟩, List.mem_of_getElem? (i := 884) (by decide +kernel), List.mem_of_getElem? (i := 1090) (by decide +kernel), List.mem_of_getElem? (i := 1091) (by decide +kernel)⟩
theorem lw_p40 : lw_okq (⟨"StavehouseModel", "laysItems", "(I)V"⟩, 34) := ⟨⟨by decide +kernel, by decide +kernel⟩, List.mem_of_getElem? (i := 884) (by decide +kernel), List.mem_of_getElem? (i := 1130) (by decide +kernel), List.mem_of_getElem? (i := 1131) (by decide +kernel)⟩
theorem lw_p41 : lw_okq (⟨"StavehouseModel", "isSilent", "(II)Z"⟩, 34) := ⟨⟨by decide +kernel, by decide +kernel⟩, List.mem_of_getElem? (i := 884) (by decide +kernel), List.mem_of_getElem? (i := 1134) (by decide +kernel), List.mem_of_getElem? (i := 1135) (by decide +kernel)⟩
theorem lw_p42 : lw_okq (⟨"StavehouseModel", "adds", "(III)V"⟩, 34) := ⟨⟨by decide +kernel, by decide +kernel⟩, List.mem_of_getElem? (i := 884) (by decide +kernel), List.mem_of_getElem? (i := 1138) (by decide +kernel), List.mem_of_getElem? (i := 1139) (by decide +kernel)⟩
theorem lw_p43 : lw_okq (⟨"StavehouseModel", "cueFor", "(II)I"⟩, 34) := ⟨⟨by decide +kernel, by decide +kernel⟩, List.mem_of_getElem? (i := 884) (by decide +kernel), List.mem_of_getElem? (i := 1142) (by decide +kernel), List.mem_of_getElem? (i := 1143) (by decide +kernel)⟩
theorem lw_p44 : lw_okq (⟨"StavehouseModel", "itemWith", "(I)I"⟩, 34) := ⟨⟨by decide +kernel, by decide +kernel⟩, List.mem_of_getElem? (i := 884) (by decide +kernel), List.mem_of_getElem? (i := 1150) (by decide +kernel), List.mem_of_getElem? (i := 1151) (by decide +kernel)⟩
theorem lw_p45 : lw_okq (⟨"StavehouseModel", "lays", "(I)V"⟩, 34) := ⟨⟨by decide +kernel, by decide +kernel⟩, List.mem_of_getElem? (i := 884) (by decide +kernel), List.mem_of_getElem? (i := 1162) (by decide +kernel), List.mem_of_getElem? (i := 1163) (by decide +kernel)⟩
theorem lw_p46 : lw_okq (⟨"StavehouseModel", "laysSprings", "()V"⟩, 34) := ⟨⟨by decide +kernel, by decide +kernel⟩, List.mem_of_getElem? (i := 884) (by decide +kernel), List.mem_of_getElem? (i := 1166) (by decide +kernel), List.mem_of_getElem? (i := 1167) (by decide +kernel)⟩
theorem lw_p47 : lw_okq (⟨"StavehouseModel", "begins", "(III)I"⟩, 34) := ⟨⟨by decide +kernel, by decide +kernel⟩, List.mem_of_getElem? (i := 884) (by decide +kernel), List.mem_of_getElem? (i := 1170) (by decide +kernel), List.mem_of_getElem? (i := 1171) (by decide +kernel)⟩
def lw_privs_3 : List (MethodName × Nat) := [(⟨"StavehouseModel", "isNote", "(III)Z"⟩, 34), (⟨"StavehouseModel", "isCopy", "(I)Z"⟩, 34), (⟨"StavehouseModel", "renews", "(I)V"⟩, 34), (⟨"StavehouseModel", "away", "()I"⟩, 34), (⟨"StavehouseModel", "isAway", "(I)Z"⟩, 34), (⟨"StavehouseModel", "owedBy", "(I)I"⟩, 34), (⟨"StavehouseModel", "owes", "(II)Z"⟩, 34), (⟨"StavehouseModel", "bowing", "(III)I"⟩, 34), (⟨"StavehouseModel", "laysItems", "(I)V"⟩, 34), (⟨"StavehouseModel", "isSilent", "(II)Z"⟩, 34), (⟨"StavehouseModel", "adds", "(III)V"⟩, 34), (⟨"StavehouseModel", "cueFor", "(II)I"⟩, 34), (⟨"StavehouseModel", "itemWith", "(I)I"⟩, 34), (⟨"StavehouseModel", "lays", "(I)V"⟩, 34), (⟨"StavehouseModel", "laysSprings", "()V"⟩, 34), (⟨"StavehouseModel", "begins", "(III)I"⟩, 34)]
theorem lw_r3 : ∀ q ∈ lw_privs_3, lw_okq q := List.forall_mem_cons.mpr ⟨lw_p32, List.forall_mem_cons.mpr ⟨lw_p33, List.forall_mem_cons.mpr ⟨lw_p34, List.forall_mem_cons.mpr ⟨lw_p35, List.forall_mem_cons.mpr ⟨lw_p36, List.forall_mem_cons.mpr ⟨lw_p37, List.forall_mem_cons.mpr ⟨lw_p38, List.forall_mem_cons.mpr ⟨lw_p39, List.forall_mem_cons.mpr ⟨lw_p40, List.forall_mem_cons.mpr ⟨lw_p41, List.forall_mem_cons.mpr ⟨lw_p42, List.forall_mem_cons.mpr ⟨lw_p43, List.forall_mem_cons.mpr ⟨lw_p44, List.forall_mem_cons.mpr ⟨lw_p45, List.forall_mem_cons.mpr ⟨lw_p46, List.forall_mem_cons.mpr ⟨lw_p47, fun _ h => absurd h List.not_mem_nil⟩⟩⟩⟩⟩⟩⟩⟩⟩⟩⟩⟩⟩⟩⟩⟩
theorem lw_p48 : lw_okq (⟨"StavehouseModel", "breaks", "(I)V"⟩, 34) := ⟨⟨by decide +kernel, by decide +kernel⟩, List.mem_of_getElem? (i := 884) (by decide +kernel), List.mem_of_getElem? (i := 1177) (by decide +kernel), List.mem_of_getElem? (i := 1178) (by decide +kernel)⟩
theorem lw_p49 : lw_okq (⟨"StavehouseModel", "badness", "(IZ)I"⟩, 34) := ⟨⟨by decide +kernel, by decide +kernel⟩, List.mem_of_getElem? (i := 884) (by decide +kernel), List.mem_of_getElem? (i := 1181) (by decide +kernel), List.mem_of_getElem? (i := 1182) (by decide +kernel)⟩
theorem lw_p50 : lw_okq (⟨"StavehouseModel", "turnCost", "(II)I"⟩, 34) := ⟨⟨by decide +kernel, by decide +kernel⟩, List.mem_of_getElem? (i := 884) (by decide +kernel), List.mem_of_getElem? (i := 1185) (by decide +kernel), List.mem_of_getElem? (i := 1186) (by decide +kernel)⟩
theorem lw_p51 : lw_okq (⟨"StavehouseModel", "silentTo", "(II)I"⟩, 34) := ⟨⟨by decide +kernel, by decide +kernel⟩, List.mem_of_getElem? (i := 884) (by decide +kernel), List.mem_of_getElem? (i := 1189) (by decide +kernel), List.mem_of_getElem? (i := 1190) (by decide +kernel)⟩
theorem lw_p52 : lw_okq (⟨"StavehouseModel", "silentFrom", "(II)I"⟩, 34) := ⟨⟨by decide +kernel, by decide +kernel⟩, List.mem_of_getElem? (i := 884) (by decide +kernel), List.mem_of_getElem? (i := 1193) (by decide +kernel), List.mem_of_getElem? (i := 1194) (by decide +kernel)⟩
theorem lw_p53 : lw_okq (⟨"StavehouseModel", "springAt", "(II)I"⟩, 34) := ⟨⟨by decide +kernel, by decide +kernel⟩, List.mem_of_getElem? (i := 884) (by decide +kernel), List.mem_of_getElem? (i := 1222) (by decide +kernel), List.mem_of_getElem? (i := 1223) (by decide +kernel)⟩
theorem lw_p54 : lw_okq (⟨"StavehouseModel", "placeOf", "(II)I"⟩, 34) := ⟨⟨by decide +kernel, by decide +kernel⟩, List.mem_of_getElem? (i := 884) (by decide +kernel), List.mem_of_getElem? (i := 1226) (by decide +kernel), List.mem_of_getElem? (i := 1227) (by decide +kernel)⟩
def lw_privs_4 : List (MethodName × Nat) := [(⟨"StavehouseModel", "breaks", "(I)V"⟩, 34), (⟨"StavehouseModel", "badness", "(IZ)I"⟩, 34), (⟨"StavehouseModel", "turnCost", "(II)I"⟩, 34), (⟨"StavehouseModel", "silentTo", "(II)I"⟩, 34), (⟨"StavehouseModel", "silentFrom", "(II)I"⟩, 34), (⟨"StavehouseModel", "springAt", "(II)I"⟩, 34), (⟨"StavehouseModel", "placeOf", "(II)I"⟩, 34)]
theorem lw_r4 : ∀ q ∈ lw_privs_4, lw_okq q := List.forall_mem_cons.mpr ⟨lw_p48, List.forall_mem_cons.mpr ⟨lw_p49, List.forall_mem_cons.mpr ⟨lw_p50, List.forall_mem_cons.mpr ⟨lw_p51, List.forall_mem_cons.mpr ⟨lw_p52, List.forall_mem_cons.mpr ⟨lw_p53, List.forall_mem_cons.mpr ⟨lw_p54, fun _ h => absurd h List.not_mem_nil⟩⟩⟩⟩⟩⟩⟩
def lw_privs : List (MethodName × Nat) := lw_privs_1 ++ (lw_privs_2 ++ (lw_privs_3 ++ (lw_privs_4)))
def lw_tbl : List Cond := k2_sels lw_privs ++ tables_1
theorem lw_privs_ok : ∀ q ∈ lw_privs, lw_okq q := by
  show ∀ q ∈ lw_privs_1 ++ (lw_privs_2 ++ (lw_privs_3 ++ (lw_privs_4))), lw_okq q
  exact List.forall_mem_append.mpr ⟨lw_r1, List.forall_mem_append.mpr ⟨lw_r2, List.forall_mem_append.mpr ⟨lw_r3, lw_r4⟩⟩⟩
-- ===== end of PART A; then your names; then what follows =====
end
section
/-! ===== BEGIN words of one list among another's, by their places ===== -/
theorem goodIn_r {big : List Cond} (ws : List Cond) (ps : List Nat) (hp : ws = ps.filterMap (fun i => big[i]?)) (h : ws.all goodWord = true) : GoodIn big ws := by
  intro w hw
  have h1 := List.all_eq_true.mp h w hw
  rw [hp] at hw
  obtain ⟨i, -, hi⟩ := List.mem_filterMap.mp hw
  have hm : w ∈ big := by first | exact List.mem_of_getElem? hi | exact List.getElem?_mem hi
  exact ⟨hm, good_of_word h1⟩
theorem goodIn_app {big a b : List Cond} (ha : GoodIn big a) (hb : GoodIn big b) : GoodIn big (a ++ b) := fun w h => (List.mem_append.mp h).elim (ha w) (hb w)
theorem goodIn_ca {big a b : List Cond} {c : Cond} (ha : GoodIn big (c :: a)) (hb : GoodIn big b) : GoodIn big (c :: (a ++ b)) := fun w h => (List.mem_cons.mp h).elim (fun e => ha w (List.mem_cons.mpr (Or.inl e))) (fun h => (List.mem_append.mp h).elim (fun h => ha w (List.mem_cons.mpr (Or.inr h))) (hb w))
theorem goodIn_sub {big ws : List Cond} (hm : ∀ w ∈ ws, w ∈ big) (h : ws.all goodWord = true) : GoodIn big ws := fun w hw => ⟨hm w hw, good_of_word (List.all_eq_true.mp h w hw)⟩
/-! ===== END ===== -/

/-! ===== BEGIN exceptions that leave a method, and their catching by the caller (launches without stack traces) ===== -/
section VXA
/-! The laws vx_back, vx_callV, vx_callS, vx_callSW, vx_throw0, vx_throwS follow proofs of the library, with one case more: JvmDerived/Free/Laws.lean (Back.of_free), Shelf42/LK1.lean (callV, callS), Shelf/KitTraced.lean (throwNew0V, throwNewS). -/
/-- where a method has thrown q: the class by its name, the cell, what was written, the world -/
def vx_T (XC : String → State → State → Prop) (st : State) (q : Addr) (t : State) (mc ms : Nat) (free : Addr → Prop) : Prop :=
  ∃ (E : String) (ce : Cell) (L : List Loc), XC E st t ∧ t.heap[q]? = some ce ∧ ce.vm = .none ∧ st.vm.findClass E = some ce.cls ∧ st.WarmedH t.vm ∧ st.sameButNew ({ t with vm := st.vm } : State) L mc ms ∧ ∀ z ∈ L, free z.base
def vx_Q (Qc : Array Value → State → Outcome → State → Prop) (XC : String → State → State → Prop) (mc ms : Nat) (free : Addr → Prop) : Array Value → State → Outcome → State → Prop := fun a st o t =>
  (Qc a st o t ∧ ∃ L, FrameEnd st o t L mc ms ∧ ∀ q ∈ L, free q.base) ∨ ∃ q, o = .threw q ∧ vx_T XC st q t mc ms free
/-- a callee that returns or throws -/
def vx_Met (l : Launch) (y : MethodName) (ws : List Cond) (rm : Room) (Pc : Array Value → State → Prop) (Qc : Array Value → State → Outcome → State → Prop) (XC : String → State → State → Prop) (mc ms : Nat) (free : Addr → Prop) : Prop :=
  MetFree l y (headSpec ws rm) Pc (fun _ _ _ _ _ => True) (vx_Q Qc XC mc ms free)
def vx_Post (XC : String → State → State → Prop) (mc ms : Nat) (free : Addr → Prop) : Pt → Array Value → Addr → Pt → Prop := fun A a q B =>
  ∃ (g : JFrame) (mk : MethodId) (t : State) (L : List Loc) (E : String) (ce : Cell), B.U.heap = t.heap ∧ B.U.vm = t.vm ∧ XC E (A.U.calling g mk a) t ∧ t.heap[q]? = some ce ∧ ce.vm = .none ∧ A.U.vm.findClass E = some ce.cls ∧ B.locs = A.locs ++ L ∧ (∀ z ∈ L, free z.base) ∧ B.cells = A.cells + mc ∧ B.slots = A.slots + ms
def vx_Back (l : Launch) (R : Room) (p : Program) (e : Env) (below : List Frame) (s : State) (sargs : Array Value) (y : MethodName) (len W9 : Nat)
    (Pre : Pt → Array Value → Prop) (Post : Pt → Array Value → Option Value → Pt → Prop) (PostX : Pt → Array Value → Addr → Pt → Prop) : Prop :=
  ∀ (m : MethodId) (meth : Method) (c : Code) (A : Pt) (g : JFrame) (ig : Instr) (mk : MethodId) (a : Array Value),
    Stand p l e R s m sargs below meth c A.U A.locs A.cells A.slots → g.method = m → g.locals.size = c.maxLocals → decode c.code g.pc = .ok (ig, len) →
    2 * g.monitorRoom + (g.stack.map fun v => v.category).sum ≤ W9 → A.U.methodNamed? y = some mk → Pre A a →
    (∃ (v : Option Value) (B : Pt), Stand p l e R s m sargs below meth c B.U B.locs B.cells B.slots ∧ Post A a v B ∧
      Steps p.tables e below (doInvoke e (A.U.setTop g) [] mk a).1 (B.U.setTop { g with pc := g.pc + len, stack := v.toList ++ g.stack })) ∨
    (∃ (q : Addr) (B : Pt), Stand p l e R s m sargs below meth c B.U B.locs B.cells B.slots ∧ PostX A a q B ∧
      Steps p.tables e below (doInvoke e (A.U.setTop g) [] mk a).1 ((B.U.setTop g).pushFrame (.throwing q)))
section Payer
variable {l : Launch} {R : Room} {p : Program} {e : Env} {below : List Frame} {s : State} {sargs : Array Value} {y : MethodName} {len W9 : Nat}
theorem vx_back {ws : List Cond} {rm : Room} {Pc : Array Value → State → Prop} {Qc : Array Value → State → Outcome → State → Prop} {XC : String → State → State → Prop} {mc ms : Nat} {free : Addr → Prop} {bytes : ByteArray} {maxL : Nat} {ret : Option FieldType}
    (hM : vx_Met l y ws rm Pc Qc XC mc ms free) (hblind : FrameBlind Pc) (hrc : rm.cells = mc) (hrs : rm.slots = ms)
    (hframes : rm.frames + 1 ≤ R.frames) (hlocals : W9 + (maxL + 11) + rm.locals ≤ R.locals)
    (hws : ∀ w ∈ ws, ∀ a' U, s.WarmedH U.vm → w.before a' U = true) (hcode : Cond.code y bytes maxL ret ∈ ws) (hinit : ∀ a' U, s.WarmedH U.vm → (Cond.initialized y.cls).before a' U = true) :
    vx_Back l R p e below s sargs y len W9 (PreOf R mc ms Pc) (PostOf Qc mc ms free) (vx_Post XC mc ms free) := by
  intro m meth c A g ig mk a X hg hsize hdg hW hn hp
  have h1 : (headSpec ws rm).pre.before a A.U = true := atoms_intro fun w hw => hws w hw _ _ X.warmed
  have h2 : (Cond.code y bytes maxL ret).before a A.U = true := hws _ hcode _ _ X.warmed
  have h3 : (Cond.initialized y.cls).before a A.U = true := hinit _ _ X.warmed
  have h4 : A.cells + (headSpec ws rm).room.cells ≤ R.cells := by rw [show (headSpec ws rm).room.cells = mc from hrc]; exact hp.1
  have h5 : A.slots + (headSpec ws rm).room.slots ≤ R.slots := by rw [show (headSpec ws rm).room.slots = ms from hrs]; exact hp.2.1
  have hPc : Pc a (A.U.calling g mk a) := hblind _ _ _ _ hp.2.2
  obtain ⟨U, Ls, c0, s0⟩ := A
  dsimp only [Pt.U, Pt.locs, Pt.cells, Pt.slots] at h1 h2 h3 h4 h5 X hn hPc ⊢
  obtain ⟨methY, cY, hmY, hcY, -, hlY, -, -, -, -⟩ := Cond.code_spec hn h2
  obtain ⟨kY, hkY, -⟩ := className_of_methodNamed hn
  have hinitY : kY.init = .initialized := Cond.initialized_spec (findClass_of_methodNamed hn) hkY h3
  have h : At U g.method c below := by rw [hg]; exact X.here
  have hlocals9 : W9 + (maxL + 11) + (headSpec ws rm).room.locals ≤ R.locals := hlocals
  have happ : (headSpec ws rm).appliesLoose y e.platform (U.calling g mk a) = true :=
    Spec.appliesLoose_calling (g := g) h hdg hn hkY hinitY
      (X.room_calling (g := g) (R' := (headSpec ws rm).room) hsize hmY hcY hframes (by rw [hlY]; omega) h4 h5) h1
  obtain ⟨mid, hmid⟩ := h.above
  have hfr : (U.setTop g).frames = (.java g :: mid) ++ below := by rw [State.frames_setTop' g h.top, hmid]; rfl
  obtain ⟨o, s₂, hsteps, -, hend, hq⟩ := Steps.callFree hM p X.admits X.cas X.clock (acts := []) hfr happ hPc trivial
  have hq' : vx_Q Qc XC mc ms free a (U.calling g mk a) o s₂ := hq
  rw [State.frames_setTop' g h.top] at hend
  obtain ⟨g₀, hg0⟩ := Option.isSome_iff_exists.mp h.top
  obtain ⟨r, hr⟩ := State.topJava?_eq_some.mp hg0
  have hr' : (({ U with heap := s₂.heap, slotsUsed := s₂.slotsUsed } : State).setVm s₂.vm).frames = .java g₀ :: r := hr
  rcases hq' with ⟨hqc, L, hfe, hL⟩ | ⟨q, rfl, E, ce, L, hx, hce, hcv, hcl, hW₂, hsm, hL⟩
  · obtain ⟨⟨v, rfl⟩, hW₂, e2, q2, q3, q4, q5, q6⟩ := id hfe
    have e3 : s₂ = ({ (U.calling g mk a).setFrames s₂.frames with heap := s₂.heap, slotsUsed := s₂.slotsUsed } : State).setVm s₂.vm := by
      have : s₂ = ({ s₂ with vm := (U.calling g mk a).vm } : State).setVm s₂.vm := rfl
      rw [e2] at this
      exact this
    obtain ⟨c₂, i₂, len₂, hc₂, hd₂, hf₂⟩ := hend
    have hW' : U.WarmedH s₂.vm := hW₂
    have hcc : c₂ = c := by
      have h1 : s₂.code? g.method = U.code? g.method := by
        rw [State.code?_eq, State.code?_eq, hW'.alike.method?]
      exact Option.some.inj (hc₂.symm.trans (h1.trans h.code))
    subst hcc
    have hlen : len₂ = len := by rw [hdg] at hd₂; cases hd₂; rfl
    subst hlen
    have hs₂ : s₂ = (({ U with heap := s₂.heap, slotsUsed := s₂.slotsUsed } : State).setVm s₂.vm).setTop { g with pc := g.pc + len₂, stack := v.toList ++ g.stack } := by
      refine e3.trans ?_
      rw [hf₂, State.calling_eq h.top, State.setFrames_setFrames, State.setTop_of_frames _ hr', hr]
      rfl
    have hsame : U.sameButNew ({ U with heap := s₂.heap, slotsUsed := s₂.slotsUsed } : State) L mc ms := by
      refine ⟨?_, q2, q3, q4, q5, q6⟩
      obtain ⟨t, ht, -⟩ := State.frames_cons hr
      show ({ U with heap := s₂.heap, slotsUsed := s₂.slotsUsed } : State) = { U.setFrames U.frames with heap := s₂.heap, slotsUsed := s₂.slotsUsed }
      rw [State.setFrames_self ht]
    subst hg
    refine Or.inl ⟨v, ⟨(({ U with heap := s₂.heap, slotsUsed := s₂.slotsUsed } : State).setVm s₂.vm), Ls ++ L, c0 + mc, s0 + ms⟩,
      ⟨X.admits, X.cas, X.clock, X.frames, X.room, X.hears, X.method, X.code, (X.here.setHeapUsed s₂.heap s₂.slotsUsed).setVm hW'.alike, X.tail, State.WarmedH.trans X.warmed hW', X.limits, X.bytes, X.same.trans (hsame.setVm s.vm)⟩,
      ⟨g, mk, s₂, L, rfl, rfl, hqc, rfl, hL, rfl, rfl⟩, ?_⟩
    show Steps p.tables e below _ ((({ U with heap := s₂.heap, slotsUsed := s₂.slotsUsed } : State).setVm s₂.vm).setTop { g with pc := g.pc + len₂, stack := v.toList ++ g.stack })
    rw [← hs₂]
    exact hsteps
  · obtain ⟨e2, q2, q3, q4, q5, q6⟩ := id hsm
    have e3 : s₂ = ({ (U.calling g mk a).setFrames s₂.frames with heap := s₂.heap, slotsUsed := s₂.slotsUsed } : State).setVm s₂.vm := by
      have : s₂ = ({ s₂ with vm := (U.calling g mk a).vm } : State).setVm s₂.vm := rfl
      rw [e2] at this
      exact this
    have hf₂ : s₂.frames = .throwing q :: .java g :: U.frames.tail := hend
    have hW' : U.WarmedH s₂.vm := hW₂
    have hs₂ : s₂ = ((({ U with heap := s₂.heap, slotsUsed := s₂.slotsUsed } : State).setVm s₂.vm).setTop g).pushFrame (.throwing q) := by
      refine e3.trans ?_
      rw [hf₂, State.calling_eq h.top, State.setFrames_setFrames, State.pushFrame, State.frames_setTop _ hr', State.setTop_of_frames _ hr', State.setFrames_setFrames, hr]
      rfl
    have hsame : U.sameButNew ({ U with heap := s₂.heap, slotsUsed := s₂.slotsUsed } : State) L mc ms := by
      refine ⟨?_, q2, q3, q4, q5, q6⟩
      obtain ⟨t, ht, -⟩ := State.frames_cons hr
      show ({ U with heap := s₂.heap, slotsUsed := s₂.slotsUsed } : State) = { U.setFrames U.frames with heap := s₂.heap, slotsUsed := s₂.slotsUsed }
      rw [State.setFrames_self ht]
    subst hg
    refine Or.inr ⟨q, ⟨(({ U with heap := s₂.heap, slotsUsed := s₂.slotsUsed } : State).setVm s₂.vm), Ls ++ L, c0 + mc, s0 + ms⟩,
      ⟨X.admits, X.cas, X.clock, X.frames, X.room, X.hears, X.method, X.code, (X.here.setHeapUsed s₂.heap s₂.slotsUsed).setVm hW'.alike, X.tail, State.WarmedH.trans X.warmed hW', X.limits, X.bytes, X.same.trans (hsame.setVm s.vm)⟩,
      ⟨g, mk, s₂, L, E, ce, rfl, rfl, hx, hce, hcv, hcl, rfl, hL, rfl, rfl⟩, ?_⟩
    show Steps p.tables e below _ (((({ U with heap := s₂.heap, slotsUsed := s₂.slotsUsed } : State).setVm s₂.vm).setTop g).pushFrame (.throwing q))
    rw [← hs₂]
    exact hsteps
end Payer
section Calls
variable {p : Program} {l : Launch} {e : Env} {R : Room} {s : State} {m : MethodId} {args : Array Value} {below : List Frame} {meth : Method} {c : Code} {T : State} {locs : List Loc} {cells slots : Nat}
theorem vx_callV (X : Stand p l e R s m args below meth c T locs cells slots) (hexec : p.tables.exec = Jvm.exec) {own C : String} {index : Nat} {y : MethodName} {bytes : ByteArray} {maxL : Nat} {ret : Option FieldType}
    (hown : s.vm.findClass own = some m.cls) (hlink : (Cond.methodLink own index y).before args s = true) (hinst : (Cond.instanceMethod y).before args s = true) (hsel : (Cond.selects C y y).before args s = true)
    (hcode : (Cond.code y bytes maxL ret).before args s = true) (hy : y.cls ≠ "java/lang/invoke/MethodHandle" ∧ y.cls ≠ "java/lang/invoke/VarHandle")
    {W9 : Nat} {Pre : Pt → Array Value → Prop} {Post : Pt → Array Value → Option Value → Pt → Prop} {PostX : Pt → Array Value → Addr → Pt → Prop} (hK : vx_Back l R p e below s args y 3 W9 Pre Post PostX)
    {b : Addr} {cellB : Cell} (hcell : T.heap[b]? = some cellB) (hobj : cellB.vm.isStatics = false) (hcls : s.vm.findClass C = some cellB.cls)
    {g : JFrame} (hg : g.method = m) (hsize : g.locals.size = c.maxLocals) {argsL rest : List Value} (hlen : ∀ sig, parseMethodDescriptor y.desc = some sig → argsL.length = sig.parameters.length)
    (hstack : g.stack = argsL.reverse ++ .ref b :: rest) (hW : 2 * g.monitorRoom + (rest.map fun v => v.category).sum ≤ W9) (hdg : decode c.code g.pc = .ok (.invokevirtual index, 3))
    (hpre : ∀ vm₁, s.WarmedH vm₁ → Pre ⟨T.setVm vm₁, locs, cells, slots⟩ (Value.ref b :: argsL).toArray) :
    (∃ (v : Option Value) (vm₁ : Vm) (B : Pt), s.WarmedH vm₁ ∧ Stand p l e R s m args below meth c B.U B.locs B.cells B.slots ∧ Post ⟨T.setVm vm₁, locs, cells, slots⟩ (Value.ref b :: argsL).toArray v B ∧
      ∀ target, Steps p.tables e below (B.U.setTop { g with pc := g.pc + 3, stack := v.toList ++ rest }) target → Steps p.tables e below (T.setTop g) target) ∨
    (∃ (q : Addr) (vm₁ : Vm) (B : Pt), s.WarmedH vm₁ ∧ Stand p l e R s m args below meth c B.U B.locs B.cells B.slots ∧ PostX ⟨T.setVm vm₁, locs, cells, slots⟩ (Value.ref b :: argsL).toArray q B ∧
      Steps p.tables e below (T.setTop g) ((B.U.setTop { g with stack := rest }).pushFrame (.throwing q))) := by
  obtain ⟨mk, methM, hnamed, hmethM, hstM, habM⟩ := Cond.instanceMethod_spec hinst
  obtain ⟨methM', cM, hmethM', -, -, -, -, -, -, hsigM⟩ := Cond.code_spec hnamed hcode
  cases hmethM.symm.trans hmethM'
  obtain ⟨c2, r2, m2, q1, q2, q3, q4, kP, hkP, hkPi⟩ := Cond.selects_spec hsel
  cases hcls.symm.trans q1
  cases (State.methodFound?_of_named hnamed hy).symm.trans q2
  cases hnamed.symm.trans q3
  have hselP : selectMethod e.platform s.vm cellB.cls mk = .method mk := by rw [Launch.admits_selectMethod X.admits]; exact q4
  obtain ⟨vm₁, X₁, hstep₁⟩ := X.invokevirtual hexec hown hlink hnamed hmethM hstM hkP hkPi hy (a := b) (cell := cellB) hcell
    (fun z h => by rw [h] at hobj; cases hobj) hselP hmethM habM hkP hkPi (g := g) hg (argsL := argsL) (rest := rest) (hlen _ hsigM) hstack hdg
  rcases hK m meth c ⟨T.setVm vm₁, locs, cells, slots⟩ { g with stack := rest } (.invokevirtual index) mk (Value.ref b :: argsL).toArray X₁ hg hsize hdg hW (X₁.named hnamed) (hpre vm₁ X₁.warmed) with ⟨v, B, X', hpost, hsteps⟩ | ⟨q, B, X', hpost, hsteps⟩
  · exact Or.inl ⟨v, vm₁, B, X₁.warmed, X', hpost, fun target h => hstep₁ _ fun acts => by rw [doInvoke_state]; exact hsteps.trans h⟩
  · exact Or.inr ⟨q, vm₁, B, X₁.warmed, X', hpost, hstep₁ _ fun acts => by rw [doInvoke_state]; exact hsteps⟩
theorem vx_callS (X : Stand p l e R s m args below meth c T locs cells slots) (hexec : p.tables.exec = Jvm.exec) {own : String} {index : Nat} {y : MethodName} {bytes : ByteArray} {maxL : Nat} {ret : Option FieldType}
    (hown : s.vm.findClass own = some m.cls) (hlink : (Cond.methodLink own index y).before args s = true) (hstat : (Cond.static y).before args s = true) (hinit : (Cond.initialized y.cls).before args s = true)
    (hcode : (Cond.code y bytes maxL ret).before args s = true) (hy : y.cls ≠ "java/lang/invoke/MethodHandle" ∧ y.cls ≠ "java/lang/invoke/VarHandle")
    {W9 : Nat} {Pre : Pt → Array Value → Prop} {Post : Pt → Array Value → Option Value → Pt → Prop} {PostX : Pt → Array Value → Addr → Pt → Prop} (hK : vx_Back l R p e below s args y 3 W9 Pre Post PostX)
    {g : JFrame} (hg : g.method = m) (hsize : g.locals.size = c.maxLocals) {argsL rest : List Value} (hlen : ∀ sig, parseMethodDescriptor y.desc = some sig → argsL.length = sig.parameters.length)
    (hstack : g.stack = argsL.reverse ++ rest) (hW : 2 * g.monitorRoom + (rest.map fun v => v.category).sum ≤ W9) (hdg : decode c.code g.pc = .ok (.invokestatic index, 3))
    (hpre : ∀ vm₁, s.WarmedH vm₁ → Pre ⟨T.setVm vm₁, locs, cells, slots⟩ argsL.toArray) :
    (∃ (v : Option Value) (vm₁ : Vm) (B : Pt), s.WarmedH vm₁ ∧ Stand p l e R s m args below meth c B.U B.locs B.cells B.slots ∧ Post ⟨T.setVm vm₁, locs, cells, slots⟩ argsL.toArray v B ∧
      ∀ target, Steps p.tables e below (B.U.setTop { g with pc := g.pc + 3, stack := v.toList ++ rest }) target → Steps p.tables e below (T.setTop g) target) ∨
    (∃ (q : Addr) (vm₁ : Vm) (B : Pt), s.WarmedH vm₁ ∧ Stand p l e R s m args below meth c B.U B.locs B.cells B.slots ∧ PostX ⟨T.setVm vm₁, locs, cells, slots⟩ argsL.toArray q B ∧
      Steps p.tables e below (T.setTop g) ((B.U.setTop { g with stack := rest }).pushFrame (.throwing q))) := by
  obtain ⟨mk, hnamed⟩ := Cond.code_named hcode
  obtain ⟨methM, cM, hmethM, -, -, -, -, -, -, hsigM⟩ := Cond.code_spec hnamed hcode
  have hstatic : methM.isStatic = true := Cond.static_spec hnamed hmethM hstat
  obtain ⟨kP, hkP, -⟩ := className_of_methodNamed hnamed
  have hinitP : kP.init = .initialized := Cond.initialized_spec (findClass_of_methodNamed hnamed) hkP hinit
  obtain ⟨vm₁, X₁, hstep₁⟩ := X.invokestatic hexec hown hlink hnamed hmethM hstatic hkP hinitP hy (g := g) hg (argsL := argsL) (rest := rest) (hlen _ hsigM) hstack hdg
  rcases hK m meth c ⟨T.setVm vm₁, locs, cells, slots⟩ { g with stack := rest } (.invokestatic index) mk argsL.toArray X₁ hg hsize hdg hW (X₁.named hnamed) (hpre vm₁ X₁.warmed) with ⟨v, B, X', hpost, hsteps⟩ | ⟨q, B, X', hpost, hsteps⟩
  · exact Or.inl ⟨v, vm₁, B, X₁.warmed, X', hpost, fun target h => hstep₁ _ fun acts => by rw [doInvoke_state]; exact hsteps.trans h⟩
  · exact Or.inr ⟨q, vm₁, B, X₁.warmed, X', hpost, hstep₁ _ fun acts => by rw [doInvoke_state]; exact hsteps⟩
end Calls
theorem vx_cls {s : State} {T : State} {vm₁ : Vm} {E : String} {k : ClassId} (hW : s.WarmedH vm₁) (h : (T.setVm vm₁).vm.findClass E = some k) : s.vm.findClass E = some k := by
  have h1 : vm₁.findClass E = some k := h
  rw [hW.alike.findClass] at h1
  exact h1
/-- the method's frame g, with q thrown over it -/
def vx_W (p : Program) (l : Launch) (e : Env) (R : Room) (s : State) (m : MethodId) (args : Array Value) (below : List Frame) (meth : Method) (c : Code) (H : Heap) (locs : List Loc) (cells slots : Nat) (Q : State → Prop) (g : JFrame) (q : Addr) : Prop :=
  ∀ T : State, T.heap = H → Stand p l e R s m args below meth c T locs cells slots → ∃ t, Steps p.tables e below ((T.setTop g).pushFrame (.throwing q)) t ∧ Q t
def vx_Run (p : Program) (l : Launch) (e : Env) (R : Room) (s : State) (m : MethodId) (args : Array Value) (below : List Frame) (meth : Method) (c : Code) (H : Heap) (locs : List Loc) (cells slots mc ms : Nat) (g : JFrame) (rest : List Value) (Qa : State → Outcome → State → Prop) (XC : String → State → State → Prop) (free : Addr → Prop) : Prop :=
  ∀ T : State, T.heap = H → Stand p l e R s m args below meth c T locs cells slots →
    (∃ (v : Option Value) (st₀ t T' : State) (L : List Loc), st₀.heap = H ∧ Stand p l e R s m args below meth c T' (locs ++ L) (cells + mc) (slots + ms) ∧ (∀ q ∈ L, free q.base) ∧ T'.heap = t.heap ∧ T'.vm = t.vm ∧ Qa st₀ (.returned v) t ∧
      Goes p e below T g T' { g with pc := g.pc + 3, stack := v.toList ++ rest }) ∨
    (∃ (q : Addr) (st₀ t T' : State) (L : List Loc) (E : String) (ce : Cell), st₀.heap = H ∧ Stand p l e R s m args below meth c T' (locs ++ L) (cells + mc) (slots + ms) ∧ (∀ z ∈ L, free z.base) ∧ T'.heap = t.heap ∧ T'.vm = t.vm ∧ XC E st₀ t ∧ t.heap[q]? = some ce ∧ ce.vm = .none ∧ s.vm.findClass E = some ce.cls ∧
      Steps p.tables e below (T.setTop g) ((T'.setTop { g with stack := rest }).pushFrame (.throwing q)))
def vx_X {S : Type} (px : S → Prop) (B : String → S → State → Prop) (A : Nat → Prop) : String → State → State → Prop := fun E st t => ∃ u : S, px u ∧ B E u t ∧ va_F A st t
section Runs
variable {p : Program} {l : Launch} {e : Env} {R : Room} {s : State} {m : MethodId} {args : Array Value} {below : List Frame} {meth : Method} {c : Code} {H : Heap} {locs : List Loc} {cells slots : Nat}
variable {y : MethodName} {bytes cc : ByteArray} {maxL nL mc ms n index : Nat} {ret : Option FieldType} {ws : List Cond} {rm : Room} {Pc : Array Value → State → Prop} {Qc : Array Value → State → Outcome → State → Prop} {XC : String → State → State → Prop} {free : Addr → Prop} {Ts : List Cond} {own C : String} {b : Addr} {As rest : List Value} {g : JFrame}
theorem vx_callBack (cb : CallB R s args own index y bytes maxL ret ws rm mc ms n) (hM : vx_Met l y ws rm Pc Qc XC mc ms free) (hbl : FrameBlind Pc) : vx_Back l R p e below s args y 3 8 (PreOf R mc ms Pc) (PostOf Qc mc ms free) (vx_Post XC mc ms free) := by
  obtain ⟨hrc, hrs, hfr, hlo, hws, hcw, -, hini, -⟩ := cb
  exact vx_back (bytes := bytes) (maxL := maxL) (ret := ret) hM hbl hrc hrs hfr hlo hws hcw (fun a' U hW => word_at hW (Or.inl (by first | rfl | simp [Cond.onTables, Cond.keeps, Cond.steady])) hini)
theorem vx_runV (S : CallFix p m c cc nL s args Ts own) (hM : vx_Met l y ws rm Pc Qc XC mc ms free) (cw : CallW R s args own C index y bytes maxL ret ws rm mc ms n) (hp : PreV s H C b Pc As)
    (hg : g.method = m) (hn : As.length = n) (hsize : g.locals.size = nL) (hstack : g.stack = As.reverse ++ .ref b :: rest) (hW : 2 * g.monitorRoom + (rest.map fun v => v.category).sum ≤ 8) (hdg : decode cc g.pc = .ok (.invokevirtual index, 3)) (hf : cells + mc ≤ R.cells ∧ slots + ms ≤ R.slots) :
    vx_Run p l e R s m args below meth c H locs cells slots mc ms g rest (Qc (Value.ref b :: As).toArray) XC free := by
  have hK : vx_Back l R p e below s args y 3 8 (PreOf R mc ms Pc) (PostOf Qc mc ms free) (vx_Post XC mc ms free) := vx_callBack cw.1 hM hp.1
  obtain ⟨⟨-, -, -, -, -, -, hcode, -, hy, hlen, hl⟩, hin, hse⟩ := cw
  obtain ⟨hx, hb, hml, ho, -⟩ := S
  obtain ⟨-, ⟨cellB, hcB, hoB, hclB⟩, hPc⟩ := hp
  intro T hT X
  rcases vx_callV X hx (C := C) (bytes := bytes) (maxL := maxL) (ret := ret) ho hl hin hse hcode hy hK (by rw [hT]; exact hcB) hoB hclB hg (hsize.trans hml.symm) (argsL := As) (rest := rest) (fun sig h => hn.trans (hlen sig h)) hstack hW (by rw [hb]; exact hdg)
    (fun vm₁ hW₁ => ⟨hf.1, hf.2, hPc (T.setVm vm₁) hT hW₁⟩) with ⟨v, vm₁, ⟨U', l2, c2, s2⟩, hW₁, X', ⟨g', mk, t, L, e1, e2, hq, h1, hL, h2, h3⟩, st⟩ | ⟨q, vm₁, ⟨U', l2, c2, s2⟩, hW₁, X', ⟨g', mk, t, L, E, ce, e1, e2, hq, hce, hcv, hcl, h1, hL, h2, h3⟩, st⟩
  · dsimp only [Pt.U, Pt.locs, Pt.cells, Pt.slots] at X' e1 e2 h1 h2 h3 st
    subst h1; subst h2; subst h3
    exact Or.inl ⟨v, (T.setVm vm₁).calling g' mk (Value.ref b :: As).toArray, t, U', L, hT, X', hL, e1, e2, hq, st⟩
  · dsimp only [Pt.U, Pt.locs, Pt.cells, Pt.slots] at X' e1 e2 h1 h2 h3 st hcl
    subst h1; subst h2; subst h3
    exact Or.inr ⟨q, (T.setVm vm₁).calling g' mk (Value.ref b :: As).toArray, t, U', L, E, ce, hT, X', hL, e1, e2, hq, hce, hcv, vx_cls hW₁ hcl, st⟩
theorem vx_runS (S : CallFix p m c cc nL s args Ts own) (hM : vx_Met l y ws rm Pc Qc XC mc ms free) (cw : CallB R s args own index y bytes maxL ret ws rm mc ms n ∧ (Cond.static y).before args s = true) (hp : PreS s H Pc As)
    (hg : g.method = m) (hn : As.length = n) (hsize : g.locals.size = nL) (hstack : g.stack = As.reverse ++ rest) (hW : 2 * g.monitorRoom + (rest.map fun v => v.category).sum ≤ 8) (hdg : decode cc g.pc = .ok (.invokestatic index, 3)) (hf : cells + mc ≤ R.cells ∧ slots + ms ≤ R.slots) :
    vx_Run p l e R s m args below meth c H locs cells slots mc ms g rest (Qc As.toArray) XC free := by
  have hK : vx_Back l R p e below s args y 3 8 (PreOf R mc ms Pc) (PostOf Qc mc ms free) (vx_Post XC mc ms free) := vx_callBack cw.1 hM hp.1
  obtain ⟨⟨-, -, -, -, -, -, hcode, hini, hy, hlen, hl⟩, hstt⟩ := cw
  obtain ⟨hx, hb, hml, ho, -⟩ := S
  intro T hT X
  rcases vx_callS X hx (bytes := bytes) (maxL := maxL) (ret := ret) ho hl hstt hini hcode hy hK hg (hsize.trans hml.symm) (argsL := As) (rest := rest) (fun sig h => hn.trans (hlen sig h)) hstack hW (by rw [hb]; exact hdg)
    (fun vm₁ hW₁ => ⟨hf.1, hf.2, hp.2 (T.setVm vm₁) hT hW₁⟩) with ⟨v, vm₁, ⟨U', l2, c2, s2⟩, hW₁, X', ⟨g', mk, t, L, e1, e2, hq, h1, hL, h2, h3⟩, st⟩ | ⟨q, vm₁, ⟨U', l2, c2, s2⟩, hW₁, X', ⟨g', mk, t, L, E, ce, e1, e2, hq, hce, hcv, hcl, h1, hL, h2, h3⟩, st⟩
  · dsimp only [Pt.U, Pt.locs, Pt.cells, Pt.slots] at X' e1 e2 h1 h2 h3 st
    subst h1; subst h2; subst h3
    exact Or.inl ⟨v, (T.setVm vm₁).calling g' mk As.toArray, t, U', L, hT, X', hL, e1, e2, hq, st⟩
  · dsimp only [Pt.U, Pt.locs, Pt.cells, Pt.slots] at X' e1 e2 h1 h2 h3 st hcl
    subst h1; subst h2; subst h3
    exact Or.inr ⟨q, (T.setVm vm₁).calling g' mk As.toArray, t, U', L, E, ce, hT, X', hL, e1, e2, hq, hce, hcv, vx_cls hW₁ hcl, st⟩
end Runs
section Rows
variable {p : Program} {l : Launch} {e : Env} {R : Room} {s : State} {m : MethodId} {args : Array Value} {below : List Frame} {meth : Method} {c : Code} {H : Heap} {locs : List Loc} {cells slots : Nat} {Q : State → Prop}
variable {mc ms : Nat} {free : Addr → Prop} {A0 A1 : Nat → Prop} {H0 : Heap} {a : Array Value} {pc : Nat} {ls : Array Slot} {st0 rest : List Value}
theorem vx_keep {st₀ t T' : State} {L : List Loc} (h0 : st₀.heap = H) (e1 : T'.heap = t.heap) (hS : va_S A0 H0 H locs) (hA : ∀ q, q < H.size → A1 q → A0 q) (hf : ∀ q, free q → A0 q) (hL : ∀ q ∈ L, free q.base) (hF : va_F A1 st₀ t) :
    H.size ≤ T'.heap.size ∧ (∀ q : Nat, q < H.size → ¬ A1 q → T'.heap[q]? = H[q]?) ∧ va_S A0 H0 T'.heap (locs ++ L) := by
  obtain ⟨hz, hk⟩ := hF
  rw [h0] at hz hk
  exact ⟨by rw [e1]; exact hz, fun q h1 h2 => by rw [e1]; exact hk q h1 h2,
    ⟨Nat.le_trans hS.1 (by rw [e1]; exact hz), fun q h1 h2 => by rw [e1, hk q (Nat.lt_of_lt_of_le h1 hS.1) (fun z => h2 (hA q (Nat.lt_of_lt_of_le h1 hS.1) z))]; exact hS.2.1 q h1 h2, fun q hq => by
      rcases List.mem_append.mp hq with h | h
      · exact hS.2.2 q h
      · exact hf _ (hL q h)⟩⟩
theorem vx_calli {S SX : Type} {post : Int32 → S → Prop} {px : SX → Prop} {B : S → State → Prop} {BX : String → SX → State → Prop} {AX : Nat → Prop} (hr : vx_Run p l e R s m args below meth c H locs cells slots mc ms (F0 m pc ls st0) rest (va_Qi post B A1 a) (vx_X px BX AX) free) (hS : va_S A0 H0 H locs) (hA : ∀ q, q < H.size → A1 q → A0 q) (hf : ∀ q, free q → A0 q) (hAX : ∀ q, q < H.size → AX q → A0 q)
    (kx : ∀ (E : String) (ce : Cell) (q9 : Addr) (u : SX) (t : State) (H1 : Heap) (locs1 : List Loc), t.heap = H1 → s.vm.Alike t.vm → px u → BX E u t → H.size ≤ H1.size → (∀ q : Nat, q < H.size → ¬ AX q → H1[q]? = H[q]?) → va_S A0 H0 H1 locs1 → H1[q9]? = some ce → ce.vm = .none → s.vm.findClass E = some ce.cls → vx_W p l e R s m args below meth c H1 locs1 (cells + mc) (slots + ms) Q (F0 m pc ls rest) q9)
    (kk : ∀ (r : Int32) (u : S) (t : State) (H1 : Heap) (locs1 : List Loc), t.heap = H1 → s.vm.Alike t.vm → post r u → B u t → H.size ≤ H1.size → (∀ q : Nat, q < H.size → ¬ A1 q → H1[q]? = H[q]?) → va_S A0 H0 H1 locs1 → W p l e R s m args below meth c H1 locs1 (cells + mc) (slots + ms) Q (F0 m (pc + 3) ls (.int r :: rest))) : W p l e R s m args below meth c H locs cells slots Q (F0 m pc ls st0) := by
  intro T hT X
  rcases hr T hT X with ⟨v, st₀, t, T', L, h0, X', hL, e1, e2, ⟨⟨r, u, hv, hp, hb⟩, hF⟩, st⟩ | ⟨q, st₀, t, T', L, E, ce, h0, X', hL, e1, e2, ⟨u, hp, hb, hF⟩, hce, hcv, hcl, st⟩
  · cases hv
    obtain ⟨k1, k2, k3⟩ := vx_keep h0 e1 hS hA hf hL hF
    obtain ⟨t2, a1, b1⟩ := kk r u t T'.heap (locs ++ L) e1.symm (by rw [← e2]; exact X'.warmed.alike) hp hb k1 k2 k3 T' rfl X'
    exact ⟨t2, st t2 a1, b1⟩
  · obtain ⟨k1, k2, k3⟩ := vx_keep h0 e1 hS hAX hf hL hF
    obtain ⟨t2, a1, b1⟩ := kx E ce q u t T'.heap (locs ++ L) e1.symm (by rw [← e2]; exact X'.warmed.alike) hp hb k1 k2 k3 (by rw [e1]; exact hce) hcv hcl T' rfl X'
    exact ⟨t2, st.trans a1, b1⟩
theorem vx_calll {S SX : Type} {post : Int64 → S → Prop} {px : SX → Prop} {B : S → State → Prop} {BX : String → SX → State → Prop} {AX : Nat → Prop} (hr : vx_Run p l e R s m args below meth c H locs cells slots mc ms (F0 m pc ls st0) rest (va_Ql post B A1 a) (vx_X px BX AX) free) (hS : va_S A0 H0 H locs) (hA : ∀ q, q < H.size → A1 q → A0 q) (hf : ∀ q, free q → A0 q) (hAX : ∀ q, q < H.size → AX q → A0 q)
    (kx : ∀ (E : String) (ce : Cell) (q9 : Addr) (u : SX) (t : State) (H1 : Heap) (locs1 : List Loc), t.heap = H1 → s.vm.Alike t.vm → px u → BX E u t → H.size ≤ H1.size → (∀ q : Nat, q < H.size → ¬ AX q → H1[q]? = H[q]?) → va_S A0 H0 H1 locs1 → H1[q9]? = some ce → ce.vm = .none → s.vm.findClass E = some ce.cls → vx_W p l e R s m args below meth c H1 locs1 (cells + mc) (slots + ms) Q (F0 m pc ls rest) q9)
    (kk : ∀ (r : Int64) (u : S) (t : State) (H1 : Heap) (locs1 : List Loc), t.heap = H1 → s.vm.Alike t.vm → post r u → B u t → H.size ≤ H1.size → (∀ q : Nat, q < H.size → ¬ A1 q → H1[q]? = H[q]?) → va_S A0 H0 H1 locs1 → W p l e R s m args below meth c H1 locs1 (cells + mc) (slots + ms) Q (F0 m (pc + 3) ls (.long r :: rest))) : W p l e R s m args below meth c H locs cells slots Q (F0 m pc ls st0) := by
  intro T hT X
  rcases hr T hT X with ⟨v, st₀, t, T', L, h0, X', hL, e1, e2, ⟨⟨r, u, hv, hp, hb⟩, hF⟩, st⟩ | ⟨q, st₀, t, T', L, E, ce, h0, X', hL, e1, e2, ⟨u, hp, hb, hF⟩, hce, hcv, hcl, st⟩
  · cases hv
    obtain ⟨k1, k2, k3⟩ := vx_keep h0 e1 hS hA hf hL hF
    obtain ⟨t2, a1, b1⟩ := kk r u t T'.heap (locs ++ L) e1.symm (by rw [← e2]; exact X'.warmed.alike) hp hb k1 k2 k3 T' rfl X'
    exact ⟨t2, st t2 a1, b1⟩
  · obtain ⟨k1, k2, k3⟩ := vx_keep h0 e1 hS hAX hf hL hF
    obtain ⟨t2, a1, b1⟩ := kx E ce q u t T'.heap (locs ++ L) e1.symm (by rw [← e2]; exact X'.warmed.alike) hp hb k1 k2 k3 (by rw [e1]; exact hce) hcv hcl T' rfl X'
    exact ⟨t2, st.trans a1, b1⟩
theorem vx_callf {S SX : Type} {post : UInt32 → S → Prop} {px : SX → Prop} {B : S → State → Prop} {BX : String → SX → State → Prop} {AX : Nat → Prop} (hr : vx_Run p l e R s m args below meth c H locs cells slots mc ms (F0 m pc ls st0) rest (va_Qf post B A1 a) (vx_X px BX AX) free) (hS : va_S A0 H0 H locs) (hA : ∀ q, q < H.size → A1 q → A0 q) (hf : ∀ q, free q → A0 q) (hAX : ∀ q, q < H.size → AX q → A0 q)
    (kx : ∀ (E : String) (ce : Cell) (q9 : Addr) (u : SX) (t : State) (H1 : Heap) (locs1 : List Loc), t.heap = H1 → s.vm.Alike t.vm → px u → BX E u t → H.size ≤ H1.size → (∀ q : Nat, q < H.size → ¬ AX q → H1[q]? = H[q]?) → va_S A0 H0 H1 locs1 → H1[q9]? = some ce → ce.vm = .none → s.vm.findClass E = some ce.cls → vx_W p l e R s m args below meth c H1 locs1 (cells + mc) (slots + ms) Q (F0 m pc ls rest) q9)
    (kk : ∀ (r : UInt32) (u : S) (t : State) (H1 : Heap) (locs1 : List Loc), t.heap = H1 → s.vm.Alike t.vm → post r u → B u t → H.size ≤ H1.size → (∀ q : Nat, q < H.size → ¬ A1 q → H1[q]? = H[q]?) → va_S A0 H0 H1 locs1 → W p l e R s m args below meth c H1 locs1 (cells + mc) (slots + ms) Q (F0 m (pc + 3) ls (.float r :: rest))) : W p l e R s m args below meth c H locs cells slots Q (F0 m pc ls st0) := by
  intro T hT X
  rcases hr T hT X with ⟨v, st₀, t, T', L, h0, X', hL, e1, e2, ⟨⟨r, u, hv, hp, hb⟩, hF⟩, st⟩ | ⟨q, st₀, t, T', L, E, ce, h0, X', hL, e1, e2, ⟨u, hp, hb, hF⟩, hce, hcv, hcl, st⟩
  · cases hv
    obtain ⟨k1, k2, k3⟩ := vx_keep h0 e1 hS hA hf hL hF
    obtain ⟨t2, a1, b1⟩ := kk r u t T'.heap (locs ++ L) e1.symm (by rw [← e2]; exact X'.warmed.alike) hp hb k1 k2 k3 T' rfl X'
    exact ⟨t2, st t2 a1, b1⟩
  · obtain ⟨k1, k2, k3⟩ := vx_keep h0 e1 hS hAX hf hL hF
    obtain ⟨t2, a1, b1⟩ := kx E ce q u t T'.heap (locs ++ L) e1.symm (by rw [← e2]; exact X'.warmed.alike) hp hb k1 k2 k3 (by rw [e1]; exact hce) hcv hcl T' rfl X'
    exact ⟨t2, st.trans a1, b1⟩
theorem vx_calld {S SX : Type} {post : UInt64 → S → Prop} {px : SX → Prop} {B : S → State → Prop} {BX : String → SX → State → Prop} {AX : Nat → Prop} (hr : vx_Run p l e R s m args below meth c H locs cells slots mc ms (F0 m pc ls st0) rest (va_Qd post B A1 a) (vx_X px BX AX) free) (hS : va_S A0 H0 H locs) (hA : ∀ q, q < H.size → A1 q → A0 q) (hf : ∀ q, free q → A0 q) (hAX : ∀ q, q < H.size → AX q → A0 q)
    (kx : ∀ (E : String) (ce : Cell) (q9 : Addr) (u : SX) (t : State) (H1 : Heap) (locs1 : List Loc), t.heap = H1 → s.vm.Alike t.vm → px u → BX E u t → H.size ≤ H1.size → (∀ q : Nat, q < H.size → ¬ AX q → H1[q]? = H[q]?) → va_S A0 H0 H1 locs1 → H1[q9]? = some ce → ce.vm = .none → s.vm.findClass E = some ce.cls → vx_W p l e R s m args below meth c H1 locs1 (cells + mc) (slots + ms) Q (F0 m pc ls rest) q9)
    (kk : ∀ (r : UInt64) (u : S) (t : State) (H1 : Heap) (locs1 : List Loc), t.heap = H1 → s.vm.Alike t.vm → post r u → B u t → H.size ≤ H1.size → (∀ q : Nat, q < H.size → ¬ A1 q → H1[q]? = H[q]?) → va_S A0 H0 H1 locs1 → W p l e R s m args below meth c H1 locs1 (cells + mc) (slots + ms) Q (F0 m (pc + 3) ls (.double r :: rest))) : W p l e R s m args below meth c H locs cells slots Q (F0 m pc ls st0) := by
  intro T hT X
  rcases hr T hT X with ⟨v, st₀, t, T', L, h0, X', hL, e1, e2, ⟨⟨r, u, hv, hp, hb⟩, hF⟩, st⟩ | ⟨q, st₀, t, T', L, E, ce, h0, X', hL, e1, e2, ⟨u, hp, hb, hF⟩, hce, hcv, hcl, st⟩
  · cases hv
    obtain ⟨k1, k2, k3⟩ := vx_keep h0 e1 hS hA hf hL hF
    obtain ⟨t2, a1, b1⟩ := kk r u t T'.heap (locs ++ L) e1.symm (by rw [← e2]; exact X'.warmed.alike) hp hb k1 k2 k3 T' rfl X'
    exact ⟨t2, st t2 a1, b1⟩
  · obtain ⟨k1, k2, k3⟩ := vx_keep h0 e1 hS hAX hf hL hF
    obtain ⟨t2, a1, b1⟩ := kx E ce q u t T'.heap (locs ++ L) e1.symm (by rw [← e2]; exact X'.warmed.alike) hp hb k1 k2 k3 (by rw [e1]; exact hce) hcv hcl T' rfl X'
    exact ⟨t2, st.trans a1, b1⟩
theorem vx_callv {S SX : Type} {post : S → Prop} {px : SX → Prop} {B : S → State → Prop} {BX : String → SX → State → Prop} {AX : Nat → Prop} (hr : vx_Run p l e R s m args below meth c H locs cells slots mc ms (F0 m pc ls st0) rest (va_Qv post B A1 a) (vx_X px BX AX) free) (hS : va_S A0 H0 H locs) (hA : ∀ q, q < H.size → A1 q → A0 q) (hf : ∀ q, free q → A0 q) (hAX : ∀ q, q < H.size → AX q → A0 q)
    (kx : ∀ (E : String) (ce : Cell) (q9 : Addr) (u : SX) (t : State) (H1 : Heap) (locs1 : List Loc), t.heap = H1 → s.vm.Alike t.vm → px u → BX E u t → H.size ≤ H1.size → (∀ q : Nat, q < H.size → ¬ AX q → H1[q]? = H[q]?) → va_S A0 H0 H1 locs1 → H1[q9]? = some ce → ce.vm = .none → s.vm.findClass E = some ce.cls → vx_W p l e R s m args below meth c H1 locs1 (cells + mc) (slots + ms) Q (F0 m pc ls rest) q9)
    (kk : ∀ (u : S) (t : State) (H1 : Heap) (locs1 : List Loc), t.heap = H1 → s.vm.Alike t.vm → post u → B u t → H.size ≤ H1.size → (∀ q : Nat, q < H.size → ¬ A1 q → H1[q]? = H[q]?) → va_S A0 H0 H1 locs1 → W p l e R s m args below meth c H1 locs1 (cells + mc) (slots + ms) Q (F0 m (pc + 3) ls (rest))) : W p l e R s m args below meth c H locs cells slots Q (F0 m pc ls st0) := by
  intro T hT X
  rcases hr T hT X with ⟨v, st₀, t, T', L, h0, X', hL, e1, e2, ⟨⟨u, hv, hp, hb⟩, hF⟩, st⟩ | ⟨q, st₀, t, T', L, E, ce, h0, X', hL, e1, e2, ⟨u, hp, hb, hF⟩, hce, hcv, hcl, st⟩
  · cases hv
    obtain ⟨k1, k2, k3⟩ := vx_keep h0 e1 hS hA hf hL hF
    obtain ⟨t2, a1, b1⟩ := kk u t T'.heap (locs ++ L) e1.symm (by rw [← e2]; exact X'.warmed.alike) hp hb k1 k2 k3 T' rfl X'
    exact ⟨t2, st t2 a1, b1⟩
  · obtain ⟨k1, k2, k3⟩ := vx_keep h0 e1 hS hAX hf hL hF
    obtain ⟨t2, a1, b1⟩ := kx E ce q u t T'.heap (locs ++ L) e1.symm (by rw [← e2]; exact X'.warmed.alike) hp hb k1 k2 k3 (by rw [e1]; exact hce) hcv hcl T' rfl X'
    exact ⟨t2, st.trans a1, b1⟩
/-- caught by the row x of this method's table; the rows ahead don't take it -/
theorem vx_catch {own name : String} {E : String} {ce : Cell} {q : Addr} (hown : s.vm.findClass own = some m.cls) (pre : List ExceptionTableEntry) (x : ExceptionTableEntry) (suf : List ExceptionTableEntry) (hsplit : c.exceptionTable.toList = pre ++ x :: suf)
    (hpass : ∀ z ∈ pre, covers z pc = false ∨ (z.catchType ≠ 0 ∧ ∃ nm : String, (Cond.classLink own z.catchType nm).before args s = true ∧ va_Nc E nm s)) (hx : covers x pc = true) (h0 : x.catchType ≠ 0)
    (hlink : (Cond.classLink own x.catchType name).before args s = true) (hcast : (Cond.castable E name).before args s = true) (hcell : H[q]? = some ce) (hv : ce.vm = .none) (hcl : s.vm.findClass E = some ce.cls)
    (kk : W p l e R s m args below meth c H locs cells slots Q (F0 m x.handlerPc ls [.ref q])) : vx_W p l e R s m args below meth c H locs cells slots Q (F0 m pc ls rest) q := by
  intro T hT X
  have hpl : e.platform.magicAccessors = ({} : Platform).magicAccessors := by rw [X.admits.platform]
  obtain ⟨c3, c4, hc3, hc4, hasg⟩ := Cond.castable_spec hcast
  cases Option.some.inj (hc3.symm.trans hcl)
  obtain ⟨c5, hc5, hcl5⟩ := Cond.classLink_spec hown hlink e.platform hpl
  cases Option.some.inj (hc4.symm.trans hc5)
  obtain ⟨vm', X', st⟩ := X.thenCaughtThrough q (g := F0 m pc ls rest) rfl (Steps.refl _) (by rw [hT]; exact hcell) (by rw [hv]; rfl) (by obtain ⟨k9, h9, -⟩ := Vm.findClass_spec hcl; exact ⟨k9, h9⟩) pre x suf hsplit
    (fun z hz => by
      rcases hpass z hz with h | ⟨hz0, nm, hl1, hn1⟩
      · exact Or.inl h
      · obtain ⟨c6, hc6, hcl6⟩ := Cond.classLink_spec hown hl1 e.platform hpl
        obtain ⟨a8, b8, h1, h2, h3⟩ := hn1
        cases Option.some.inj (h1.symm.trans hcl)
        cases Option.some.inj (h2.symm.trans hc6)
        exact Or.inr ⟨hz0, _, hcl6, h3⟩) hx (Or.inr ⟨h0, c4, hcl5, hasg⟩)
  obtain ⟨t, a1, b1⟩ := kk (T.setVm vm') hT X'
  exact ⟨t, st.trans a1, b1⟩
end Rows
section Ends
variable {p : Program} {l : Launch} {e : Env} {R : Room} {s : State} {m : MethodId} {args : Array Value} {below : List Frame} {meth : Method} {c : Code} {H : Heap} {locs : List Loc} {cells slots : Nat} {Q : State → Prop}
variable {mc ms : Nat} {free : Addr → Prop} {A0 A1 : Nat → Prop} {H0 : Heap} {a : Array Value} {ls : Array Slot} {st0 rest : List Value}
variable {Qc : Array Value → State → Outcome → State → Prop} {XC : String → State → State → Prop}
/-- what a body that may throw owes at its end -/
def vx_MQ (below : List Frame) (Qc : Array Value → State → Outcome → State → Prop) (XC : String → State → State → Prop) (a : Array Value) (s : State) (mc ms : Nat) (free : Addr → Prop) : State → Prop := fun t =>
  ∃ o, t.status = .running ∧ Ended t below o ∧ vx_Q Qc XC mc ms free a s o t
theorem vx_ret {g : JFrame} {mc ms : Nat} (k : W p l e R s m args below meth c H locs cells slots (MQ below Qc args s mc ms free) g) : W p l e R s m args below meth c H locs cells slots (vx_MQ below Qc XC args s mc ms free) g := by
  intro T hT X
  obtain ⟨t, a1, o, b1, b2, b3, b4⟩ := k T hT X
  exact ⟨t, a1, o, b1, b2, Or.inl ⟨b3, b4⟩⟩
/-- not caught here: it goes on to the caller -/
theorem vx_widen {g : JFrame} {q : Addr} {k n : Nat} (h1 : cells ≤ k) (h2 : slots ≤ n) (kk : vx_W p l e R s m args below meth c H locs k n Q g q) : vx_W p l e R s m args below meth c H locs cells slots Q g q := fun T hT X => kk T hT (stand_widen X h1 h2)
theorem vx_out {pc : Nat} {E : String} {ce : Cell} {q : Addr} {mc ms : Nat} (hout : ∀ x ∈ c.exceptionTable.toList, covers x pc = false) (hlocks : meth.locks = false) (hcell : H[q]? = some ce) (hv : ce.vm = .none) (hcl : s.vm.findClass E = some ce.cls)
    (hx : ∀ t : State, t.heap = H → s.vm.Alike t.vm → XC E s t) (hf : ∀ z ∈ locs, free z.base) (hc : cells ≤ mc) (hs : slots ≤ ms) :
    vx_W p l e R s m args below meth c H locs cells slots (vx_MQ below Qc XC args s mc ms free) (F0 m pc ls rest) q := by
  intro T hT X
  obtain ⟨st1, hrun, hend, hW, hsm⟩ := X.leaveThrown q (g := F0 m pc ls rest) rfl rfl rfl hout hlocks
  have hcell9 : (T.setFrames (.throwing q :: below)).heap[q]? = some ce := by
    show T.heap[q]? = some ce
    rw [hT]; exact hcell
  exact ⟨_, st1, .threw q, hrun, hend, Or.inr ⟨q, rfl, E, ce, locs, hx _ hT hW.alike, hcell9, hv, hcl, hW, hsm.mono hc hs, hf⟩⟩
theorem vx_frame {U : State} {k n : Nat} (h : s.sameButNew ({ U with vm := s.vm } : State) locs k n) : s.heap.size ≤ U.heap.size ∧ ∀ q : Nat, q < s.heap.size → (∀ z ∈ locs, z.base ≠ q) → U.heap[q]? = s.heap[q]? := by
  obtain ⟨-, h2, -, -, -, h6⟩ := h
  refine ⟨h2, fun q hq hz => ?_⟩
  obtain ⟨c9, e1, e2, e3, e4⟩ := h6 q _ (Array.getElem?_eq_getElem hq)
  have hs : c9.slots = (s.heap[q]).slots := Array.ext_getElem? fun i => e4 i fun hm => hz _ hm rfl
  have h9 : c9 = s.heap[q] := by
    rw [hs] at e2
    exact e2
  have e5 : U.heap[q]? = some c9 := e1
  rw [e5, h9, Array.getElem?_eq_getElem hq]
/-- the words of a throw but the four that speak of the heap -/
def vx_no (w : Cond) : Bool := decide (w ≠ .isRef (.static Bundle.tN "UNASSIGNED_STACK" Bundle.steD)) && decide (w ≠ .isRef (.static Bundle.tN "SUPPRESSED_SENTINEL" Bundle.listD)) && decide (w ≠ .laysStatic Bundle.tN "UNASSIGNED_STACK" Bundle.steD) && decide (w ≠ .laysStatic Bundle.tN "SUPPRESSED_SENTINEL" Bundle.listD)
def vx_at0 (own : String) (ic : Nat) (X : String) (names : List String) : List Cond := (Bundle.ownAtoms0 own ic X names).filter vx_no
def vx_atS (own : String) (ic : Nat) (X : String) (names : List String) : List Cond := (Bundle.ownAtoms own ic X names).filter vx_no
/-- a word that the tables alone decide, or a good one -/
def vx_ot (w : Cond) : Bool := w.onTables || goodWord w
theorem vx_ot_at {args a' : Array Value} {s U : State} {w : Cond} (hW : s.WarmedH U.vm) (hvm : s.vm = U.vm) (hg : vx_ot w = true) (h : w.before args s = true) : w.before a' U = true := by
  simp only [vx_ot, Bool.or_eq_true] at hg
  rcases hg with hg | hg
  · exact va_tabs hg hvm h
  · exact word_at hW (good_of_word hg) h
/-- a list's words: the good ones out of the method's own list, the others by premises of their own -/
theorem vx_hat {args : Array Value} {s : State} {L B : List Cond} (h1 : ∀ w ∈ L.filter goodWord, w.before args s = true) (h2 : ∀ w ∈ L.filter (fun w => !goodWord w), w ∈ B) (h3 : ∀ w ∈ B, w.before args s = true) : ∀ w ∈ L, w.before args s = true := by
  intro w hw
  by_cases g : goodWord w = true
  · exact h1 w (List.mem_filter.mpr ⟨hw, g⟩)
  · refine h3 w (h2 w (List.mem_filter.mpr ⟨hw, ?_⟩))
    show (!goodWord w) = true
    cases hgw : goodWord w
    · rfl
    · exact absurd hgw g
theorem vx_c {args : Array Value} {s : State} {w : Cond} {B : List Cond} (h : w.before args s = true) (t : ∀ w ∈ B, w.before args s = true) : ∀ w' ∈ w :: B, w'.before args s = true := fun w' h' => (List.mem_cons.mp h').elim (fun e => by rw [e]; exact h) (t w')
theorem vx_n {args : Array Value} {s : State} : ∀ w ∈ ([] : List Cond), w.before args s = true := fun _ h => nomatch h
theorem vx_own {args : Array Value} {s : State} {L : List Cond} (h1 : ∀ w ∈ L.filter vx_no, w.before args s = true)
    (hU : (Cond.isRef (.static Bundle.tN "UNASSIGNED_STACK" Bundle.steD)).before args s = true) (hN : (Cond.isRef (.static Bundle.tN "SUPPRESSED_SENTINEL" Bundle.listD)).before args s = true)
    (lU : (Cond.laysStatic Bundle.tN "UNASSIGNED_STACK" Bundle.steD).before args s = true) (lN : (Cond.laysStatic Bundle.tN "SUPPRESSED_SENTINEL" Bundle.listD).before args s = true) : ∀ w ∈ L, w.before args s = true := by
  intro w hw
  by_cases e1 : w = .isRef (.static Bundle.tN "UNASSIGNED_STACK" Bundle.steD)
  · rw [e1]; exact hU
  · by_cases e2 : w = .isRef (.static Bundle.tN "SUPPRESSED_SENTINEL" Bundle.listD)
    · rw [e2]; exact hN
    · by_cases e3 : w = .laysStatic Bundle.tN "UNASSIGNED_STACK" Bundle.steD
      · rw [e3]; exact lU
      · by_cases e4 : w = .laysStatic Bundle.tN "SUPPRESSED_SENTINEL" Bundle.listD
        · rw [e4]; exact lN
        · exact h1 w (List.mem_filter.mpr ⟨hw, by unfold vx_no; rw [decide_eq_true e1, decide_eq_true e2, decide_eq_true e3, decide_eq_true e4]; rfl⟩)
/-- where a static field lies, its class's statics cell in H -/
def vx_L (C n d : String) (A : Nat → Prop) (U : State) (H : Heap) : Prop := ∃ (c : ClassId) (k : Class) (i : Nat) (f : Field) (a : Nat) (cell : Cell), U.vm.findClass C = some c ∧ U.fieldFound? C n d = some (c, k, i, f) ∧ f.isStatic = true ∧ k.statics = some a ∧ H[a]? = some cell ∧ cell.vm.isStatics = true ∧ cell.cls = c ∧ f.slot < cell.slots.size ∧ k.staticTypes[f.slot]? = some f.type ∧ ¬ A a
theorem vx_L.moved {C n d : String} {A : Nat → Prop} {u U : State} {H : Heap} (hvm : u.vm.Alike U.vm) (h : vx_L C n d A u H) : vx_L C n d A U H := by
  obtain ⟨c, k, i, f, a, cell, h1, h2, h3, h4, h5, h6, h7, h8, h9, h10⟩ := h
  obtain ⟨k', hi', he⟩ := State.fieldFound?_setVm hvm h2
  exact ⟨c, k', i, f, a, cell, by rw [hvm.findClass]; exact h1, hi', h3, by rw [he]; exact h4, h5, h6, h7, h8, by rw [he]; exact h9, h10⟩
theorem vx_L.kept {C n d : String} {A : Nat → Prop} {U : State} {H H1 : Heap} (h : vx_L C n d A U H) (hq : ∀ a : Nat, a < H.size → ¬ A a → H1[a]? = H[a]?) : vx_L C n d A U H1 := by
  obtain ⟨c, k, i, f, a, cell, h1, h2, h3, h4, h5, h6, h7, h8, h9, h10⟩ := h
  exact ⟨c, k, i, f, a, cell, h1, h2, h3, h4, by rw [hq a (Array.getElem?_eq_some_iff.mp h5).1 h10]; exact h5, h6, h7, h8, h9, h10⟩
theorem vx_L.narrow {C n d : String} {A B : Nat → Prop} {U : State} {H : Heap} (h : vx_L C n d A U H) (hAB : ∀ q, B q → A q) : vx_L C n d B U H := by
  obtain ⟨c, k, i, f, a, cell, h1, h2, h3, h4, h5, h6, h7, h8, h9, h10⟩ := h
  exact ⟨c, k, i, f, a, cell, h1, h2, h3, h4, h5, h6, h7, h8, h9, fun z => h10 (hAB _ z)⟩
theorem vx_L.word {C n d : String} {A : Nat → Prop} {s : State} {args : Array Value} (h : vx_L C n d A s s.heap) : (Cond.laysStatic C n d).before args s = true := by
  obtain ⟨c, k, i, f, a, cell, h1, h2, h3, h4, h5, h6, h7, h8, h9, -⟩ := h
  show (Cond.laysStatic C n d).holds args s none s [] = true
  exact Cond.laysStatic_of h1 h2 h3 h4 h5 h6 h7 h8 h9
/-- .. and what it holds: null or some reference -/
def vx_Zq (C n d : String) (A : Nat → Prop) (U : State) (H : Heap) : Prop := va_Zq C n d A U H ∧ vx_L C n d A U H
theorem vx_Zq.moved {C n d : String} {A : Nat → Prop} {u U : State} {H : Heap} (hvm : u.vm.Alike U.vm) (h : vx_Zq C n d A u H) : vx_Zq C n d A U H := ⟨va_Zq.moved hvm h.1, vx_L.moved hvm h.2⟩
theorem vx_Zq.kept {C n d : String} {A : Nat → Prop} {U : State} {H H1 : Heap} (h : vx_Zq C n d A U H) (hq : ∀ a : Nat, a < H.size → ¬ A a → H1[a]? = H[a]?) : vx_Zq C n d A U H1 := ⟨va_Zq.kept h.1 hq, vx_L.kept h.2 hq⟩
theorem vx_Zq.narrow {C n d : String} {A B : Nat → Prop} {U : State} {H : Heap} (h : vx_Zq C n d A U H) (hAB : ∀ q, B q → A q) : vx_Zq C n d B U H := ⟨va_Zq.narrow h.1 hAB, vx_L.narrow h.2 hAB⟩
theorem vx_Zqof {args : Array Value} {s : State} {C n d : String} {A : Nat → Prop} (hl : (Cond.laysStatic C n d).before args s = true) (hini : (Cond.initialized C).before args s = true) (h : (Cond.isRef (.static C n d)).before args s = true) (hA : ∀ a : Nat, a < s.heap.size → ¬ A a) : vx_Zq C n d A s s.heap := by
  refine ⟨va_Zqof hl hini h hA, ?_⟩
  obtain ⟨c, k, i, f, a, cell, h1, h2, h3, h4, h5, h6, h7, h8, h9⟩ := Cond.laysStatic_spec hl
  exact ⟨c, k, i, f, a, cell, h1, h2, h3, h4, h5, h6, h7, h8, h9, hA a (Array.getElem?_eq_some_iff.mp h5).1⟩
theorem vx_isRef {C n d : String} {v : Value} {A : Nat → Prop} {s : State} {args : Array Value} (h : va_Z C n d v A s s.heap) (hv : v.isRef = true) : (Cond.isRef (.static C n d)).before args s = true := by
  obtain ⟨cf, kf, fi, f, a, cell, h1, h2, h3, h4, h5, h6, h7, -⟩ := h
  have he : (Term.static C n d).eval args s none [] s = some v := by
    simp [Term.eval, State.fieldNamed?, h1, h2, h4, h5, h6, h7]
  simp only [Cond.before, Cond.holds, Cond.value, he]
  cases v <;> simp_all [Value.isRef]
theorem vx_isRefq {C n d : String} {A : Nat → Prop} {s : State} {args : Array Value} (h : va_Zq C n d A s s.heap) : (Cond.isRef (.static C n d)).before args s = true := by
  rcases h with h | ⟨t, h⟩
  · exact vx_isRef h rfl
  · exact vx_isRef h rfl
/-- the same frame, seen from here: as if the method were called anew in this heap -/
theorem vx_rebase {T : State} (X : Stand p l e R s m args below meth c T locs cells slots) {R' : Room} (hf : R'.frames ≤ R.frames) (hl : R'.locals ≤ R.locals) (hc : cells + R'.cells ≤ R.cells) (hs : slots + R'.slots ≤ R.slots) :
    Stand p l e R' ((T.setVm s.vm).setFrames (.invoking m args :: below)) m args below meth c T [] 0 0 := by
  have htop : (T.setVm s.vm).topJava?.isSome := X.here.top
  have hF : ((T.setVm s.vm).setFrames (.invoking m args :: below)).frames = .invoking m args :: below := State.frames_setFrames _ (State.cur_lt_of_top htop)
  obtain ⟨g₀, hg0⟩ := Option.isSome_iff_exists.mp htop
  obtain ⟨r, hr⟩ := State.topJava?_eq_some.mp hg0
  have hl9 : e.platform.stackLimits (T.setVm s.vm).me = e.platform.stackLimits s.me := X.limits
  have hb9 : (T.setVm s.vm).me.stackBytes = s.me.stackBytes := X.bytes
  refine ⟨X.admits, X.cas, X.clock, hF, ?_, X.hears, X.method, X.code, X.here, X.tail, X.warmed, ?_, ?_, ?_⟩
  · have h := X.room
    have hU : ((T.setVm s.vm).setFrames (.invoking m args :: below)).localsInUse = s.localsInUse := by
      rw [State.localsInUse_invoking hF (meth := meth) (c := c) X.method X.code, State.localsInUse_invoking X.frames X.method X.code]
    simp only [State.hasRoom, Bool.and_eq_true, decide_eq_true_eq] at h ⊢
    obtain ⟨⟨⟨⟨h1, h2, h3, h4, h5, h6⟩, h7⟩, h8⟩, h9⟩ := h
    rw [X.frames, List.length_cons] at h2 h3
    have q1 := X.heapSize
    have q2 := X.used
    simp only [hF, hU, List.length_cons, State.stackLimits_setFrames, State.stackBytes_setFrames, hl9, hb9]
    refine ⟨⟨⟨⟨by omega, by omega, by omega, by omega, by omega, h6⟩, ?_⟩, ?_⟩, X.book⟩
    · show T.heap.size + R'.cells ≤ e.platform.maxCells
      omega
    · show T.slotsUsed + R'.slots ≤ e.platform.maxSlots
      omega
  · rw [State.stackLimits_setFrames]; rfl
  · rw [State.stackBytes_setFrames]; rfl
  · refine ⟨?_, Nat.le_refl _, Nat.le_refl _, ?_, ?_, fun a c9 h9 => ⟨c9, h9, rfl, rfl, fun _ _ => rfl⟩⟩
    · obtain ⟨t, ht, -⟩ := State.frames_cons hr
      show T.setVm s.vm = { ((T.setVm s.vm).setFrames (.invoking m args :: below)).setFrames (T.setVm s.vm).frames with heap := T.heap, slotsUsed := T.slotsUsed }
      rw [State.setFrames_setFrames, State.setFrames_self ht]
      rfl
    · show T.slotsUsed = T.slotsUsed + ((T.heap.toList.drop T.heap.size).map (·.slots.size)).sum
      rw [List.drop_eq_nil_of_le (Nat.le_of_eq Array.length_toList)]
      rfl
    · show ((T.heap.toList.drop T.heap.size).map (·.slots.size)).sum ≤ 0
      rw [List.drop_eq_nil_of_le (Nat.le_of_eq Array.length_toList)]
      exact Nat.le_refl _
/-- 'throw new E()': new; dup; invokespecial; athrow -/
theorem vx_throw0 {cc : ByteArray} {pc : Nat} (hexec : p.tables.exec = Jvm.exec) (hb : c.code = cc) (hl : l.stackTraces = false) {own cls : String} {names : List String} {ik ic mc ms : Nat} {A : Nat → Prop}
    (hown : s.vm.findClass own = some m.cls) (hcls : Bundle.fit cls = true) (hnames : ∀ n ∈ names, Bundle.fit n = true)
    (hk : (Cond.classLink own ik cls).before args s = true) (hini : (Cond.initialized cls).before args s = true) (hat : ∀ w ∈ vx_at0 own ic cls names, w.before args s = true)
    (hgood : ∀ w ∈ Cond.classLink own ik cls :: Cond.initialized cls :: vx_at0 own ic cls names, vx_ot w = true)
    (hU : vx_Zq Bundle.tN "UNASSIGNED_STACK" Bundle.steD A s s.heap) (hN : vx_Zq Bundle.tN "SUPPRESSED_SENTINEL" Bundle.listD A s s.heap) (hS : va_S A s.heap H locs) (hsize : ls.size = c.maxLocals)
    (d0 : decode cc pc = .ok (.new ik, 3)) (d3 : decode cc (pc + 3) = .ok (.dup, 1)) (d4 : decode cc (pc + 4) = .ok (.invokespecial ic, 3)) (d7 : decode cc (pc + 7) = .ok (.athrow, 1))
    (hout : ∀ x ∈ c.exceptionTable.toList, covers x (pc + 7) = false)
    (hRframes : names.length + 3 < R.frames) (hRlocals : (rest.map fun v => v.category).sum + (13 * (names.length + 1) + 42) ≤ R.locals) (hRcells : cells + 1 ≤ R.cells) (hRslots : slots + 6 ≤ R.slots) (hlocks : meth.locks = false)
    (hx : ∀ t : State, s.vm.Alike t.vm → H.size ≤ t.heap.size → (∀ q : Nat, q < H.size → t.heap[q]? = H[q]?) → XC cls s t)
    (hf : ∀ z ∈ locs, free z.base) (hc : cells + 1 ≤ mc) (hs : slots + 6 ≤ ms) :
    W p l e R s m args below meth c H locs cells slots (vx_MQ below Qc XC args s mc ms free) (F0 m pc ls rest) := by
  intro T hT X
  have htr : e.platform.stackTraces = false := (show e.platform.stackTraces = l.stackTraces by rw [X.admits.platform]).trans hl
  have Y := vx_rebase X (R' := { frames := R.frames, locals := R.locals, cells := 1, slots := 6 }) (Nat.le_refl _) (Nat.le_refl _) hRcells hRslots
  obtain ⟨s', hA⟩ : ∃ z, z = (T.setVm s.vm).setFrames (.invoking m args :: below) := ⟨_, rfl⟩
  rw [← hA] at Y
  have hvm : s'.vm = s.vm := by rw [hA]; rfl
  have hhp : s'.heap = H := by rw [hA]; exact hT
  have hW0 : s.WarmedH s'.vm := by rw [hvm]; exact State.WarmedH.refl s
  have hat' : ∀ w ∈ vx_at0 own ic cls names, w.before args s' = true := fun w hw => vx_ot_at hW0 hvm.symm (hgood w (List.mem_cons_of_mem _ (List.mem_cons_of_mem _ hw))) (hat w hw)
  have hk' : (Cond.classLink own ik cls).before args s' = true := vx_ot_at hW0 hvm.symm (hgood _ List.mem_cons_self) hk
  have hini' : (Cond.initialized cls).before args s' = true := vx_ot_at hW0 hvm.symm (hgood _ (List.mem_cons_of_mem _ List.mem_cons_self)) hini
  have hU' : vx_Zq Bundle.tN "UNASSIGNED_STACK" Bundle.steD A s' s'.heap := by rw [hhp]; exact vx_Zq.moved hW0.alike (hU.kept hS.2.1)
  have hN' : vx_Zq Bundle.tN "SUPPRESSED_SENTINEL" Bundle.listD A s' s'.heap := by rw [hhp]; exact vx_Zq.moved hW0.alike (hN.kept hS.2.1)
  have h : ∀ w ∈ Bundle.ownAtoms0 own ic cls names, w.before args s' = true := vx_own hat' (vx_isRefq hU'.1) (vx_isRefq hN'.1) hU'.2.word hN'.2.word
  have hown' : s'.vm.findClass own = some m.cls := by rw [hvm]; exact hown
  have hins : (Cond.instantiable cls 6).before args s' = true := h _ (by simp [Bundle.ownAtoms0])
  obtain ⟨vm₁, cX, kX, hfX, hkX, -, -, X₁, st1⟩ := Y.newCold hexec (own := own) (C := cls) (index := ik) (n := 6) hown' hk' hins hini'
    (g := F0 m pc ls rest) rfl (by rw [hb]; exact d0) (Nat.le_refl _) (Nat.le_refl _)
  generalize hT1 : (T.setVm vm₁).pushCell { cls := cX, slots := kX.instanceTypes.map defaultValue, vm := .none } = T1 at X₁ st1
  have hcat : (Value.ref T.heap.size).category = 1 := rfl
  have hcellA : T1.heap[T.heap.size]? = some (freshCell cX kX) := by rw [← hT1]; exact State.heap_pushCell_size _ _
  have d3' : decode c.code (pc + 3) = .ok (.dup, 1) := by rw [hb]; exact d3
  obtain ⟨U, hsteps, hrun, hend, hW, hsame, ce, hce, hO⟩ := X₁.ctorThrow0 hexec htr (own := own) (cls := cls) (names := names) (ic := ic) hown' hcls hnames h (fun x hx => nomatch hx) hfX hkX hcellA (by rw [hhp, hT]; exact Nat.le_refl _)
    (g := { method := m, pc := pc + 4, locals := ls, stack := .ref T.heap.size :: .ref T.heap.size :: rest, locked := none }) rfl hsize rfl rfl (rest := rest) rfl
    (by rw [hb]; exact d4) (by rw [hb]; exact d7) hout hRframes (by simp only [List.map_cons, List.sum_cons, hcat]; omega) hlocks
  obtain ⟨f1, f2⟩ := vx_frame hsame
  rw [hhp] at f1 f2
  have hWs : s.WarmedH U.vm := State.WarmedH.trans hW0 hW
  have hcl : s.vm.findClass cls = some ce.cls := by
    have h9 := hO.cls
    rw [hvm] at h9
    exact h9
  have hall : s.sameButNew ({ U with vm := s.vm } : State) locs mc ms := by
    subst hA
    obtain ⟨e1, e2⟩ := hsame
    rw [State.setFrames_setFrames] at e1
    have h2 : (T.setVm s.vm).sameButNew ({ U with vm := s.vm } : State) [] (0 + 1) (0 + 6) := ⟨e1, e2⟩
    have h3 := X.same.trans h2
    rw [List.append_nil] at h3
    exact h3.mono hc hs
  refine ⟨U, ?_, .threw T.heap.size, hrun, hend, Or.inr ⟨T.heap.size, rfl, cls, ce, locs, hx U hWs.alike f1 (fun q hq => f2 q hq (fun z hz => nomatch hz)), hce, hO.vm, hcl, hWs, hall, hf⟩⟩
  refine st1 _ ?_
  show Steps p.tables e below (T1.setTop { method := m, pc := pc + 3, locals := ls, stack := .ref T.heap.size :: rest, locked := none }) _
  jvm_step X₁.here [X₁.here.top, hexec, d3', Value.category]
  exact hsteps
/-- 'throw new E("text")': new; dup; ldc; invokespecial; athrow -/
theorem vx_throwS {cc : ByteArray} {pc : Nat} (hexec : p.tables.exec = Jvm.exec) (hb : c.code = cc) (hl : l.stackTraces = false) {own cls text : String} {names : List String} {ik is ic mc ms sa : Nat} {A : Nat → Prop}
    (hown : s.vm.findClass own = some m.cls) (hcls : Bundle.fit cls = true) (hnames : ∀ n ∈ names, Bundle.fit n = true)
    (hk : (Cond.classLink own ik cls).before args s = true) (hini : (Cond.initialized cls).before args s = true) (hstr : vk_R own is text sa s) (hat : ∀ w ∈ vx_atS own ic cls names, w.before args s = true)
    (hgood : ∀ w ∈ Cond.classLink own ik cls :: Cond.initialized cls :: vx_atS own ic cls names, vx_ot w = true)
    (hU : vx_Zq Bundle.tN "UNASSIGNED_STACK" Bundle.steD A s s.heap) (hN : vx_Zq Bundle.tN "SUPPRESSED_SENTINEL" Bundle.listD A s s.heap) (hS : va_S A s.heap H locs) (hsize : ls.size = c.maxLocals)
    (d0 : decode cc pc = .ok (.new ik, 3)) (d3 : decode cc (pc + 3) = .ok (.dup, 1)) (d4 : decode cc (pc + 4) = .ok (.ldc is, 2)) (d6 : decode cc (pc + 6) = .ok (.invokespecial ic, 3)) (d9 : decode cc (pc + 9) = .ok (.athrow, 1))
    (hout : ∀ x ∈ c.exceptionTable.toList, covers x (pc + 9) = false)
    (hRframes : names.length + 3 < R.frames) (hRlocals : (rest.map fun v => v.category).sum + (13 * (names.length + 1) + 43) ≤ R.locals) (hRcells : cells + 1 ≤ R.cells) (hRslots : slots + 6 ≤ R.slots) (hlocks : meth.locks = false)
    (hx : ∀ t : State, s.vm.Alike t.vm → H.size ≤ t.heap.size → (∀ q : Nat, q < H.size → t.heap[q]? = H[q]?) → XC cls s t)
    (hf : ∀ z ∈ locs, free z.base) (hc : cells + 1 ≤ mc) (hs : slots + 6 ≤ ms) :
    W p l e R s m args below meth c H locs cells slots (vx_MQ below Qc XC args s mc ms free) (F0 m pc ls rest) := by
  intro T hT X
  have htr : e.platform.stackTraces = false := (show e.platform.stackTraces = l.stackTraces by rw [X.admits.platform]).trans hl
  have Y := vx_rebase X (R' := { frames := R.frames, locals := R.locals, cells := 1, slots := 6 }) (Nat.le_refl _) (Nat.le_refl _) hRcells hRslots
  obtain ⟨s', hA⟩ : ∃ z, z = (T.setVm s.vm).setFrames (.invoking m args :: below) := ⟨_, rfl⟩
  rw [← hA] at Y
  have hvm : s'.vm = s.vm := by rw [hA]; rfl
  have hhp : s'.heap = H := by rw [hA]; exact hT
  have hW0 : s.WarmedH s'.vm := by rw [hvm]; exact State.WarmedH.refl s
  have hat' : ∀ w ∈ vx_atS own ic cls names, w.before args s' = true := fun w hw => vx_ot_at hW0 hvm.symm (hgood w (List.mem_cons_of_mem _ (List.mem_cons_of_mem _ hw))) (hat w hw)
  have hk' : (Cond.classLink own ik cls).before args s' = true := vx_ot_at hW0 hvm.symm (hgood _ List.mem_cons_self) hk
  have hini' : (Cond.initialized cls).before args s' = true := vx_ot_at hW0 hvm.symm (hgood _ (List.mem_cons_of_mem _ List.mem_cons_self)) hini
  have hU' : vx_Zq Bundle.tN "UNASSIGNED_STACK" Bundle.steD A s' s'.heap := by rw [hhp]; exact vx_Zq.moved hW0.alike (hU.kept hS.2.1)
  have hN' : vx_Zq Bundle.tN "SUPPRESSED_SENTINEL" Bundle.listD A s' s'.heap := by rw [hhp]; exact vx_Zq.moved hW0.alike (hN.kept hS.2.1)
  have h : ∀ w ∈ Bundle.ownAtoms own ic cls names, w.before args s' = true := vx_own hat' (vx_isRefq hU'.1) (vx_isRefq hN'.1) hU'.2.word hN'.2.word
  have hown' : s'.vm.findClass own = some m.cls := by rw [hvm]; exact hown
  have hins : (Cond.instantiable cls 6).before args s' = true := h _ (by simp [Bundle.ownAtoms])
  obtain ⟨vm₁, cX, kX, hfX, hkX, -, -, X₁, st1⟩ := Y.newCold hexec (own := own) (C := cls) (index := ik) (n := 6) hown' hk' hins hini'
    (g := F0 m pc ls rest) rfl (by rw [hb]; exact d0) (Nat.le_refl _) (Nat.le_refl _)
  generalize hT1 : (T.setVm vm₁).pushCell { cls := cX, slots := kX.instanceTypes.map defaultValue, vm := .none } = T1 at X₁ st1
  have hcat : (Value.ref T.heap.size).category = 1 := rfl
  have hcellA : T1.heap[T.heap.size]? = some (freshCell cX kX) := by rw [← hT1]; exact State.heap_pushCell_size _ _
  have d3' : decode c.code (pc + 3) = .ok (.dup, 1) := by rw [hb]; exact d3
  have d4' : decode c.code (pc + 4) = .ok (.ldc is, 2) := by rw [hb]; exact d4
  have hstr' : vk_R own is text sa s' := vk_R.warm hW0 hstr
  obtain ⟨U, hsteps, hrun, hend, hW, hsame, ce, hce, hO⟩ := X₁.ctorThrowS hexec htr (own := own) (cls := cls) (names := names) (ic := ic) hown' hcls hnames h (fun x hx => nomatch hx) hfX hkX hcellA (by rw [hhp, hT]; exact Nat.le_refl _) (msg := .ref sa) rfl
    (g := { method := m, pc := pc + 6, locals := ls, stack := .ref sa :: .ref T.heap.size :: .ref T.heap.size :: rest, locked := none }) rfl hsize rfl rfl (rest := rest) rfl
    (by rw [hb]; exact d6) (by rw [hb]; exact d9) hout hRframes (by simp only [List.map_cons, List.sum_cons, hcat]; omega) hlocks
  obtain ⟨f1, f2⟩ := vx_frame hsame
  rw [hhp] at f1 f2
  have hWs : s.WarmedH U.vm := State.WarmedH.trans hW0 hW
  have hcl : s.vm.findClass cls = some ce.cls := by
    have h9 := hO.cls
    rw [hvm] at h9
    exact h9
  have hall : s.sameButNew ({ U with vm := s.vm } : State) locs mc ms := by
    subst hA
    obtain ⟨e1, e2⟩ := hsame
    rw [State.setFrames_setFrames] at e1
    have h2 : (T.setVm s.vm).sameButNew ({ U with vm := s.vm } : State) [] (0 + 1) (0 + 6) := ⟨e1, e2⟩
    have h3 := X.same.trans h2
    rw [List.append_nil] at h3
    exact h3.mono hc hs
  refine ⟨U, ?_, .threw T.heap.size, hrun, hend, Or.inr ⟨T.heap.size, rfl, cls, ce, locs, hx U hWs.alike f1 (fun q hq => f2 q hq (fun z hz => nomatch hz)), hce, hO.vm, hcl, hWs, hall, hf⟩⟩
  refine st1 _ ?_
  show Steps p.tables e below (T1.setTop { method := m, pc := pc + 3, locals := ls, stack := .ref T.heap.size :: rest, locked := none }) _
  jvm_step X₁.here [X₁.here.top, hexec, d3', Value.category]
  exact X₁.ldcString hexec (own := own) (text := text) (index := is) (a := sa) hown' hstr'.1 hstr'.2
    (g := { method := m, pc := pc + 4, locals := ls, stack := .ref T.heap.size :: .ref T.heap.size :: rest, locked := none }) rfl d4' _ hsteps
/-- 'throw new E("text")', the text by a wide index -/
theorem vx_throwSW {cc : ByteArray} {pc : Nat} (hexec : p.tables.exec = Jvm.exec) (hb : c.code = cc) (hl : l.stackTraces = false) {own cls text : String} {names : List String} {ik is ic mc ms sa : Nat} {A : Nat → Prop}
    (hown : s.vm.findClass own = some m.cls) (hcls : Bundle.fit cls = true) (hnames : ∀ n ∈ names, Bundle.fit n = true)
    (hk : (Cond.classLink own ik cls).before args s = true) (hini : (Cond.initialized cls).before args s = true) (hstr : vk_R own is text sa s) (hat : ∀ w ∈ vx_atS own ic cls names, w.before args s = true)
    (hgood : ∀ w ∈ Cond.classLink own ik cls :: Cond.initialized cls :: vx_atS own ic cls names, vx_ot w = true)
    (hU : vx_Zq Bundle.tN "UNASSIGNED_STACK" Bundle.steD A s s.heap) (hN : vx_Zq Bundle.tN "SUPPRESSED_SENTINEL" Bundle.listD A s s.heap) (hS : va_S A s.heap H locs) (hsize : ls.size = c.maxLocals)
    (d0 : decode cc pc = .ok (.new ik, 3)) (d3 : decode cc (pc + 3) = .ok (.dup, 1)) (d4 : decode cc (pc + 4) = .ok (.ldc_w is, 3)) (d7 : decode cc (pc + 7) = .ok (.invokespecial ic, 3)) (d10 : decode cc (pc + 10) = .ok (.athrow, 1))
    (hout : ∀ x ∈ c.exceptionTable.toList, covers x (pc + 10) = false)
    (hRframes : names.length + 3 < R.frames) (hRlocals : (rest.map fun v => v.category).sum + (13 * (names.length + 1) + 43) ≤ R.locals) (hRcells : cells + 1 ≤ R.cells) (hRslots : slots + 6 ≤ R.slots) (hlocks : meth.locks = false)
    (hx : ∀ t : State, s.vm.Alike t.vm → H.size ≤ t.heap.size → (∀ q : Nat, q < H.size → t.heap[q]? = H[q]?) → XC cls s t)
    (hf : ∀ z ∈ locs, free z.base) (hc : cells + 1 ≤ mc) (hs : slots + 6 ≤ ms) :
    W p l e R s m args below meth c H locs cells slots (vx_MQ below Qc XC args s mc ms free) (F0 m pc ls rest) := by
  intro T hT X
  have htr : e.platform.stackTraces = false := (show e.platform.stackTraces = l.stackTraces by rw [X.admits.platform]).trans hl
  have Y := vx_rebase X (R' := { frames := R.frames, locals := R.locals, cells := 1, slots := 6 }) (Nat.le_refl _) (Nat.le_refl _) hRcells hRslots
  obtain ⟨s', hA⟩ : ∃ z, z = (T.setVm s.vm).setFrames (.invoking m args :: below) := ⟨_, rfl⟩
  rw [← hA] at Y
  have hvm : s'.vm = s.vm := by rw [hA]; rfl
  have hhp : s'.heap = H := by rw [hA]; exact hT
  have hW0 : s.WarmedH s'.vm := by rw [hvm]; exact State.WarmedH.refl s
  have hat' : ∀ w ∈ vx_atS own ic cls names, w.before args s' = true := fun w hw => vx_ot_at hW0 hvm.symm (hgood w (List.mem_cons_of_mem _ (List.mem_cons_of_mem _ hw))) (hat w hw)
  have hk' : (Cond.classLink own ik cls).before args s' = true := vx_ot_at hW0 hvm.symm (hgood _ List.mem_cons_self) hk
  have hini' : (Cond.initialized cls).before args s' = true := vx_ot_at hW0 hvm.symm (hgood _ (List.mem_cons_of_mem _ List.mem_cons_self)) hini
  have hU' : vx_Zq Bundle.tN "UNASSIGNED_STACK" Bundle.steD A s' s'.heap := by rw [hhp]; exact vx_Zq.moved hW0.alike (hU.kept hS.2.1)
  have hN' : vx_Zq Bundle.tN "SUPPRESSED_SENTINEL" Bundle.listD A s' s'.heap := by rw [hhp]; exact vx_Zq.moved hW0.alike (hN.kept hS.2.1)
  have h : ∀ w ∈ Bundle.ownAtoms own ic cls names, w.before args s' = true := vx_own hat' (vx_isRefq hU'.1) (vx_isRefq hN'.1) hU'.2.word hN'.2.word
  have hown' : s'.vm.findClass own = some m.cls := by rw [hvm]; exact hown
  have hins : (Cond.instantiable cls 6).before args s' = true := h _ (by simp [Bundle.ownAtoms])
  obtain ⟨vm₁, cX, kX, hfX, hkX, -, -, X₁, st1⟩ := Y.newCold hexec (own := own) (C := cls) (index := ik) (n := 6) hown' hk' hins hini'
    (g := F0 m pc ls rest) rfl (by rw [hb]; exact d0) (Nat.le_refl _) (Nat.le_refl _)
  generalize hT1 : (T.setVm vm₁).pushCell { cls := cX, slots := kX.instanceTypes.map defaultValue, vm := .none } = T1 at X₁ st1
  have hcat : (Value.ref T.heap.size).category = 1 := rfl
  have hcellA : T1.heap[T.heap.size]? = some (freshCell cX kX) := by rw [← hT1]; exact State.heap_pushCell_size _ _
  have d3' : decode c.code (pc + 3) = .ok (.dup, 1) := by rw [hb]; exact d3
  have d4' : decode c.code (pc + 4) = .ok (.ldc_w is, 3) := by rw [hb]; exact d4
  have hstr' : vk_R own is text sa s' := vk_R.warm hW0 hstr
  obtain ⟨U, hsteps, hrun, hend, hW, hsame, ce, hce, hO⟩ := X₁.ctorThrowS hexec htr (own := own) (cls := cls) (names := names) (ic := ic) hown' hcls hnames h (fun x hx => nomatch hx) hfX hkX hcellA (by rw [hhp, hT]; exact Nat.le_refl _) (msg := .ref sa) rfl
    (g := { method := m, pc := pc + 7, locals := ls, stack := .ref sa :: .ref T.heap.size :: .ref T.heap.size :: rest, locked := none }) rfl hsize rfl rfl (rest := rest) rfl
    (by rw [hb]; exact d7) (by rw [hb]; exact d10) hout hRframes (by simp only [List.map_cons, List.sum_cons, hcat]; omega) hlocks
  obtain ⟨f1, f2⟩ := vx_frame hsame
  rw [hhp] at f1 f2
  have hWs : s.WarmedH U.vm := State.WarmedH.trans hW0 hW
  have hcl : s.vm.findClass cls = some ce.cls := by
    have h9 := hO.cls
    rw [hvm] at h9
    exact h9
  have hall : s.sameButNew ({ U with vm := s.vm } : State) locs mc ms := by
    subst hA
    obtain ⟨e1, e2⟩ := hsame
    rw [State.setFrames_setFrames] at e1
    have h2 : (T.setVm s.vm).sameButNew ({ U with vm := s.vm } : State) [] (0 + 1) (0 + 6) := ⟨e1, e2⟩
    have h3 := X.same.trans h2
    rw [List.append_nil] at h3
    exact h3.mono hc hs
  refine ⟨U, ?_, .threw T.heap.size, hrun, hend, Or.inr ⟨T.heap.size, rfl, cls, ce, locs, hx U hWs.alike f1 (fun q hq => f2 q hq (fun z hz => nomatch hz)), hce, hO.vm, hcl, hWs, hall, hf⟩⟩
  refine st1 _ ?_
  show Steps p.tables e below (T1.setTop { method := m, pc := pc + 3, locals := ls, stack := .ref T.heap.size :: rest, locked := none }) _
  jvm_step X₁.here [X₁.here.top, hexec, d3', Value.category]
  exact X₁.ldcStringW hexec (own := own) (text := text) (index := is) (a := sa) hown' hstr'.1 hstr'.2
    (g := { method := m, pc := pc + 4, locals := ls, stack := .ref T.heap.size :: .ref T.heap.size :: rest, locked := none }) rfl d4' _ hsteps
end Ends
section Bodies
variable {l : Launch}
theorem vx_ofW {y : MethodName} {ws ws' : List Cond} {rm : Room} {Pc : Array Value → State → Prop} {Qc : Array Value → State → Outcome → State → Prop} {XC : String → State → State → Prop} {mc ms : Nat} {free : Addr → Prop} {cc : ByteArray} {maxL : Nat} {ret : Option FieldType}
    (hy : plainName y.cls = true) (hw : ws = Cond.code y cc maxL ret :: ws')
    (body : ∀ p e s m args below meth c s₁, BodyLoose p l y (headSpec ws rm) cc maxL ret e s m args below meth c s₁ → c.maxLocals = maxL → (∀ x ∈ c.exceptionTable.toList, False) → Pc args s →
      W p l e (headSpec ws rm).room s m args below meth c s.heap [] 0 0 (vx_MQ below Qc XC args s mc ms free) (entryFrame m args maxL)) : vx_Met l y ws rm Pc Qc XC mc ms free := by
  refine MetFree.of_bodyS (code := cc) (maxLocals := maxL) (ret := ret) hy ?_ ?_
  · intro args s m h hn
    obtain ⟨meth, c, h1, h2, h3, h4, h5, h6, -, -⟩ := Cond.code_spec hn (atoms_spec (ws := ws) h _ (by rw [hw]; exact List.mem_cons_self))
    exact ⟨meth, c, h1, h2, h3, h4, h5, h6⟩
  · intro p e s m args below meth c s₁ B hml hP _
    have hh0 : s₁.heap = s.heap := by rw [B.state]; rfl
    have ht : ∀ x ∈ c.exceptionTable.toList, False := by
      obtain ⟨meth9, c9, h1, h2, -, -, -, -, h7, -⟩ := Cond.code_spec B.named (atoms_spec (ws := ws) B.pre _ (by rw [hw]; exact List.mem_cons_self))
      cases Option.some.inj (h1.symm.trans B.method)
      cases Option.some.inj (h2.symm.trans (Stand.of_body B).code)
      intro x hx
      rw [Array.isEmpty_iff.mp h7] at hx
      cases hx
    obtain ⟨t, a1, o, b1, b2, b3⟩ := body p e s m args below meth c s₁ B hml ht hP s₁ hh0 (Stand.of_body B)
    exact ⟨t, o, a1, b1, b2, b3⟩
/-- the table of a body with handlers -/
theorem vx_table {p : Program} {x y : MethodName} {S : Spec} {cc bytes : ByteArray} {maxL maxL' : Nat} {ret ret' : Option FieldType} {e : Env} {s s₁ : State} {m : MethodId} {args : Array Value} {below : List Frame} {meth : Method} {c : Code} {hh : List (Nat × Nat × Nat × Nat)}
    (B : BodyLoose p l y S cc maxL ret e s m args below meth c s₁) (h : (Cond.codeWith y bytes maxL' ret' hh).before args s = true) : c.exceptionTable.toList = tableOf hh := by
  obtain ⟨m9, meth9, c9, hn9, h1, h2, -, -, h6, -⟩ := Cond.codeWith_spec h
  cases Option.some.inj (hn9.symm.trans B.named)
  cases Option.some.inj (h1.symm.trans B.method)
  cases Option.some.inj (h2.symm.trans (Stand.of_body B).code)
  rw [← h6, table_eq]
end Bodies
end VXA
/-! ===== END ===== -/
/-! ===== BEGIN a static call of a method with an exception table ===== -/
section VXS
variable {p : Program} {l : Launch} {e : Env} {R : Room} {s : State} {m : MethodId} {args : Array Value} {below : List Frame} {meth : Method} {c : Code} {T : State} {H : Heap} {locs : List Loc} {cells slots : Nat}
abbrev vx_CSW (R : Room) (s : State) (args : Array Value) (own : String) (index : Nat) (y : MethodName) (bytes : ByteArray) (maxL : Nat) (ret : Option FieldType) (hh : List (Nat × Nat × Nat × Nat)) (ws : List Cond) (rm : Room) (mc ms n : Nat) : Prop :=
  (rm.cells = mc ∧ rm.slots = ms ∧ rm.frames + 1 ≤ R.frames ∧ 8 + (maxL + 11) + rm.locals ≤ R.locals ∧ (∀ w ∈ ws, ∀ (a' : Array Value) (U : State), s.WarmedH U.vm → w.before a' U = true) ∧ Cond.codeWith y bytes maxL ret hh ∈ ws) ∧
  (Cond.codeWith y bytes maxL ret hh).before args s = true ∧ (Cond.initialized y.cls).before args s = true ∧ (y.cls ≠ "java/lang/invoke/MethodHandle" ∧ y.cls ≠ "java/lang/invoke/VarHandle") ∧
  (∀ sig, parseMethodDescriptor y.desc = some sig → n = sig.parameters.length) ∧ (Cond.methodLink own index y).before args s = true ∧ (Cond.static y).before args s = true
theorem vx_cwSW {own : String} {index maxL mc ms : Nat} {y : MethodName} {bytes : ByteArray} {ret : Option FieldType} {hh : List (Nat × Nat × Nat × Nat)} {Ts ws ws' : List Cond} {rm : Room} (n : Nat) (ht : ∀ w ∈ Ts, w.before args s = true) (hT : GoodIn Ts (va_wsS own index y ws)) (hw : ws = Cond.codeWith y bytes maxL ret hh :: ws') (hrc : rm.cells = mc) (hrs : rm.slots = ms)
    (hd : y.cls ≠ "java/lang/invoke/MethodHandle" ∧ y.cls ≠ "java/lang/invoke/VarHandle" ∧ (parseMethodDescriptor y.desc).map (fun d => d.parameters.length) = some n) (hR : rm.frames + 1 ≤ R.frames ∧ 8 + (maxL + 11) + rm.locals ≤ R.locals) :
    vx_CSW R s args own index y bytes maxL ret hh ws rm mc ms n := by
  have ok : ∀ w ∈ va_wsS own index y ws, w.before args s = true := fun w h => ht w (hT w h).1
  have hG : GoodIn Ts ws := fun w h => hT w (by unfold va_wsS; exact List.mem_append_right _ h)
  have hc : Cond.codeWith y bytes maxL ret hh ∈ ws := by rw [hw]; exact List.mem_cons_self
  refine ⟨⟨hrc, hrs, hR.1, hR.2, pay_in ht hG, hc⟩, ht _ (hG _ hc).1, ok _ (by simp [va_wsS]), ⟨hd.1, hd.2.1⟩, fun sig h => ?_, ok _ (by simp [va_wsS]), ok _ (by simp [va_wsS])⟩
  have h2 := hd.2.2
  rw [h] at h2
  exact (Option.some.inj h2).symm
theorem vx_callSW (X : Stand p l e R s m args below meth c T locs cells slots) (hexec : p.tables.exec = Jvm.exec) {own : String} {index : Nat} {y : MethodName} {bytes : ByteArray} {maxL : Nat} {ret : Option FieldType} {hh : List (Nat × Nat × Nat × Nat)}
    (hown : s.vm.findClass own = some m.cls) (hlink : (Cond.methodLink own index y).before args s = true) (hstat : (Cond.static y).before args s = true) (hinit : (Cond.initialized y.cls).before args s = true)
    (hcode : (Cond.codeWith y bytes maxL ret hh).before args s = true) (hy : y.cls ≠ "java/lang/invoke/MethodHandle" ∧ y.cls ≠ "java/lang/invoke/VarHandle")
    {W9 : Nat} {Pre : Pt → Array Value → Prop} {Post : Pt → Array Value → Option Value → Pt → Prop} (hK : Back l R p e below s args y 3 W9 Pre Post)
    {g : JFrame} (hg : g.method = m) (hsize : g.locals.size = c.maxLocals) {argsL rest : List Value} (hlen : ∀ sig, parseMethodDescriptor y.desc = some sig → argsL.length = sig.parameters.length)
    (hstack : g.stack = argsL.reverse ++ rest) (hW : 2 * g.monitorRoom + (rest.map fun v => v.category).sum ≤ W9) (hdg : decode c.code g.pc = .ok (.invokestatic index, 3))
    (hpre : ∀ vm₁, s.WarmedH vm₁ → Pre ⟨T.setVm vm₁, locs, cells, slots⟩ argsL.toArray) :
    ∃ (v : Option Value) (vm₁ : Vm) (B : Pt), s.WarmedH vm₁ ∧ Stand p l e R s m args below meth c B.U B.locs B.cells B.slots ∧ Post ⟨T.setVm vm₁, locs, cells, slots⟩ argsL.toArray v B ∧
      ∀ target, Steps p.tables e below (B.U.setTop { g with pc := g.pc + 3, stack := v.toList ++ rest }) target → Steps p.tables e below (T.setTop g) target := by
  obtain ⟨mk, methM, cM, hnamed, hmethM, -, -, -, -, -, -, hsigM⟩ := Cond.codeWith_spec hcode
  have hstatic : methM.isStatic = true := Cond.static_spec hnamed hmethM hstat
  obtain ⟨kP, hkP, -⟩ := className_of_methodNamed hnamed
  have hinitP : kP.init = .initialized := Cond.initialized_spec (findClass_of_methodNamed hnamed) hkP hinit
  obtain ⟨vm₁, X₁, hstep₁⟩ := X.invokestatic hexec hown hlink hnamed hmethM hstatic hkP hinitP hy (g := g) hg (argsL := argsL) (rest := rest) (hlen _ hsigM) hstack hdg
  obtain ⟨v, B, X', hpost, hsteps⟩ := hK m meth c ⟨T.setVm vm₁, locs, cells, slots⟩ { g with stack := rest } (.invokestatic index) mk argsL.toArray X₁ hg hsize hdg hW (X₁.named hnamed) (hpre vm₁ X₁.warmed)
  exact ⟨v, vm₁, B, X₁.warmed, X', hpost, fun target h => hstep₁ _ fun acts => by rw [doInvoke_state]; exact hsteps.trans h⟩
theorem vx_runSW {y : MethodName} {bytes cc : ByteArray} {maxL nL mc ms n index : Nat} {ret : Option FieldType} {hh : List (Nat × Nat × Nat × Nat)} {ws : List Cond} {rm : Room} {Pc : Array Value → State → Prop} {Qc : Array Value → State → Outcome → State → Prop} {free : Addr → Prop} {Ts : List Cond} {own : String} {As rest : List Value} {g : JFrame}
    (S : CallFix p m c cc nL s args Ts own) (hM : Met l y ws rm Pc Qc mc ms free) (cw : vx_CSW R s args own index y bytes maxL ret hh ws rm mc ms n) (hp : PreS s H Pc As)
    (hg : g.method = m) (hn : As.length = n) (hsize : g.locals.size = nL) (hstack : g.stack = As.reverse ++ rest) (hW : 2 * g.monitorRoom + (rest.map fun v => v.category).sum ≤ 8) (hdg : decode cc g.pc = .ok (.invokestatic index, 3)) (hf : cells + mc ≤ R.cells ∧ slots + ms ≤ R.slots) :
    va_Run p l e R s m args below meth c H locs cells slots mc ms g rest (Qc As.toArray) (free) := by
  obtain ⟨⟨hrc, hrs, hfr, hlo, hws, hcw⟩, hcode, hini, hy, hlen, hl, hstt⟩ := cw
  have hK : Back l R p e below s args y 3 8 (PreOf R mc ms Pc) (PostOf Qc mc ms free) := va_backW (hh := hh) (bytes := bytes) (maxL := maxL) (ret := ret) hM hp.1 hrc hrs hfr hlo hws hcw (fun a' U hW => word_at hW (Or.inl (by first | rfl | simp [Cond.onTables, Cond.keeps, Cond.steady])) hini)
  obtain ⟨hx, hb, hml, ho, -⟩ := S
  intro T hT X
  obtain ⟨v, vm₁, ⟨U', l2, c2, s2⟩, hW₁, X', ⟨g', mk, t, L, e1, e2, hq, h1, hL, h2, h3⟩, st⟩ := vx_callSW X hx (hh := hh) (bytes := bytes) (maxL := maxL) (ret := ret) ho hl hstt hini hcode hy hK hg (hsize.trans hml.symm) (argsL := As) (rest := rest) (fun sig h => hn.trans (hlen sig h)) hstack hW (by rw [hb]; exact hdg)
    (fun vm₁ hW₁ => ⟨hf.1, hf.2, hp.2 (T.setVm vm₁) hT hW₁⟩)
  dsimp only [Pt.U, Pt.locs, Pt.cells, Pt.slots] at X' e1 e2 h1 h2 h3 st
  subst h1; subst h2; subst h3
  exact ⟨v, (T.setVm vm₁).calling g' mk As.toArray, t, U', L, hT, X', hL, e1, e2, hq, st⟩
/-- not caught here, past rows that name other classes: it goes on to the caller -/
theorem vx_outP {p : Program} {l : Launch} {e : Env} {R : Room} {s : State} {m : MethodId} {args : Array Value} {below : List Frame} {meth : Method} {c : Code} {H : Heap} {locs : List Loc} {cells slots : Nat} {free : Addr → Prop} {ls : Array Slot} {rest : List Value} {Qc : Array Value → State → Outcome → State → Prop} {XC : String → State → State → Prop}
    {pc : Nat} {own E : String} {ce : Cell} {q : Addr} {mc ms : Nat} (hown : s.vm.findClass own = some m.cls) (hlocks : meth.locks = false)
    (hpass : ∀ z ∈ c.exceptionTable.toList, covers z pc = false ∨ (z.catchType ≠ 0 ∧ ∃ nm : String, (Cond.classLink own z.catchType nm).before args s = true ∧ va_Nc E nm s)) (hcell : H[q]? = some ce) (hv : ce.vm = .none) (hcl : s.vm.findClass E = some ce.cls)
    (hx : ∀ t : State, t.heap = H → s.vm.Alike t.vm → XC E s t) (hf : ∀ z ∈ locs, free z.base) (hc : cells ≤ mc) (hs : slots ≤ ms) :
    vx_W p l e R s m args below meth c H locs cells slots (vx_MQ below Qc XC args s mc ms free) (F0 m pc ls rest) q := by
  intro T hT X
  have hpl : e.platform.magicAccessors = ({} : Platform).magicAccessors := by rw [X.admits.platform]
  obtain ⟨vm', hW', X', st⟩ := X.outThrough hlocks q (g := F0 m pc ls rest) rfl rfl rfl (cell := ce) (by rw [hT]; exact hcell) (by rw [hv]; rfl)
    (by obtain ⟨k9, h9, -⟩ := Vm.findClass_spec hcl; exact ⟨k9, h9⟩) (fun z hz => by
      rcases hpass z hz with h | ⟨hz0, nm, hl1, hn1⟩
      · exact Or.inl h
      · obtain ⟨c6, hc6, hcl6⟩ := Cond.classLink_spec hown hl1 e.platform hpl
        obtain ⟨a8, b8, h1, h2, h3⟩ := hn1
        cases Option.some.inj (h1.symm.trans hcl)
        cases Option.some.inj (h2.symm.trans hc6)
        exact Or.inr ⟨hz0, _, hcl6, h3⟩)
  obtain ⟨g₀, hfr⟩ := X'.frames_eq
  have hcell9 : ((T.setVm vm').setFrames (.throwing q :: below)).heap[q]? = some ce := by
    show T.heap[q]? = some ce
    rw [hT]; exact hcell
  have hend : Ended ((T.setVm vm').setFrames (.throwing q :: below)) below (.threw q) := State.frames_setFrames _ (State.cur_lt_of_frames hfr)
  refine ⟨(T.setVm vm').setFrames (.throwing q :: below), ?_, .threw q, X'.here.running, hend, Or.inr ⟨q, rfl, E, ce, locs, hx _ hT (X'.ends _).1.alike, hcell9, hv, hcl, (X'.ends _).1, (X'.ends _).2.mono hc hs, hf⟩⟩
  rw [X.pushThrowing_eq]
  exact st
/-- a thing of a world lies in the heap -/
theorem vx_lt {D : va_G} {cl : List vw_C} {ws : va_W} {H1 : Heap} (h : va_P D cl ws H1) {k : Nat} {q : Nat × va_E} (hk : ws[k]? = some q) : q.1 < H1.size := (h k q hk).lt
end VXS
/-! ===== END ===== -/
/-! ===== BEGIN methods with a table of their own: called by a name, returning or throwing ===== -/
section VXH
/-! vx_backW, vx_callVX, vx_callSX, vx_callVW, vx_runVW, vx_runVX, vx_runSX, vx_ofWH follow the same proofs as their sisters above (Free/Laws.lean, Shelf42/LK1.lean); vx_outP calls Shelf42/NT130.lean (outThrough). -/
section
variable {l : Launch} {R : Room} {p : Program} {e : Env} {below : List Frame} {s : State} {sargs : Array Value} {y : MethodName} {len W9 : Nat}
theorem vx_backW {ws : List Cond} {rm : Room} {Pc : Array Value → State → Prop} {Qc : Array Value → State → Outcome → State → Prop} {XC : String → State → State → Prop} {mc ms : Nat} {free : Addr → Prop} {bytes : ByteArray} {maxL : Nat} {ret : Option FieldType} {hh : List (Nat × Nat × Nat × Nat)}
    (hM : vx_Met l y ws rm Pc Qc XC mc ms free) (hblind : FrameBlind Pc) (hrc : rm.cells = mc) (hrs : rm.slots = ms)
    (hframes : rm.frames + 1 ≤ R.frames) (hlocals : W9 + (maxL + 11) + rm.locals ≤ R.locals)
    (hws : ∀ w ∈ ws, ∀ a' U, s.WarmedH U.vm → w.before a' U = true) (hcode : Cond.codeWith y bytes maxL ret hh ∈ ws) (hinit : ∀ a' U, s.WarmedH U.vm → (Cond.initialized y.cls).before a' U = true) :
    vx_Back l R p e below s sargs y len W9 (PreOf R mc ms Pc) (PostOf Qc mc ms free) (vx_Post XC mc ms free) := by
  intro m meth c A g ig mk a X hg hsize hdg hW hn hp
  have h1 : (headSpec ws rm).pre.before a A.U = true := atoms_intro fun w hw => hws w hw _ _ X.warmed
  have h2 : (Cond.codeWith y bytes maxL ret hh).before a A.U = true := hws _ hcode _ _ X.warmed
  have h3 : (Cond.initialized y.cls).before a A.U = true := hinit _ _ X.warmed
  have h4 : A.cells + (headSpec ws rm).room.cells ≤ R.cells := by rw [show (headSpec ws rm).room.cells = mc from hrc]; exact hp.1
  have h5 : A.slots + (headSpec ws rm).room.slots ≤ R.slots := by rw [show (headSpec ws rm).room.slots = ms from hrs]; exact hp.2.1
  have hPc : Pc a (A.U.calling g mk a) := hblind _ _ _ _ hp.2.2
  obtain ⟨U, Ls, c0, s0⟩ := A
  dsimp only [Pt.U, Pt.locs, Pt.cells, Pt.slots] at h1 h2 h3 h4 h5 X hn hPc ⊢
  obtain ⟨m9, methY, cY, hn9, hmY, hcY, -, hlY, -⟩ := Cond.codeWith_spec h2
  cases Option.some.inj (hn9.symm.trans hn)
  obtain ⟨kY, hkY, -⟩ := className_of_methodNamed hn
  have hinitY : kY.init = .initialized := Cond.initialized_spec (findClass_of_methodNamed hn) hkY h3
  have h : At U g.method c below := by rw [hg]; exact X.here
  have hlocals9 : W9 + (maxL + 11) + (headSpec ws rm).room.locals ≤ R.locals := hlocals
  have happ : (headSpec ws rm).appliesLoose y e.platform (U.calling g mk a) = true :=
    Spec.appliesLoose_calling (g := g) h hdg hn hkY hinitY
      (X.room_calling (g := g) (R' := (headSpec ws rm).room) hsize hmY hcY hframes (by rw [hlY]; omega) h4 h5) h1
  obtain ⟨mid, hmid⟩ := h.above
  have hfr : (U.setTop g).frames = (.java g :: mid) ++ below := by rw [State.frames_setTop' g h.top, hmid]; rfl
  obtain ⟨o, s₂, hsteps, -, hend, hq⟩ := Steps.callFree hM p X.admits X.cas X.clock (acts := []) hfr happ hPc trivial
  have hq' : vx_Q Qc XC mc ms free a (U.calling g mk a) o s₂ := hq
  rw [State.frames_setTop' g h.top] at hend
  obtain ⟨g₀, hg0⟩ := Option.isSome_iff_exists.mp h.top
  obtain ⟨r, hr⟩ := State.topJava?_eq_some.mp hg0
  have hr' : (({ U with heap := s₂.heap, slotsUsed := s₂.slotsUsed } : State).setVm s₂.vm).frames = .java g₀ :: r := hr
  rcases hq' with ⟨hqc, L, hfe, hL⟩ | ⟨q, rfl, E, ce, L, hx, hce, hcv, hcl, hW₂, hsm, hL⟩
  · obtain ⟨⟨v, rfl⟩, hW₂, e2, q2, q3, q4, q5, q6⟩ := id hfe
    have e3 : s₂ = ({ (U.calling g mk a).setFrames s₂.frames with heap := s₂.heap, slotsUsed := s₂.slotsUsed } : State).setVm s₂.vm := by
      have : s₂ = ({ s₂ with vm := (U.calling g mk a).vm } : State).setVm s₂.vm := rfl
      rw [e2] at this
      exact this
    obtain ⟨c₂, i₂, len₂, hc₂, hd₂, hf₂⟩ := hend
    have hW' : U.WarmedH s₂.vm := hW₂
    have hcc : c₂ = c := by
      have h1 : s₂.code? g.method = U.code? g.method := by
        rw [State.code?_eq, State.code?_eq, hW'.alike.method?]
      exact Option.some.inj (hc₂.symm.trans (h1.trans h.code))
    subst hcc
    have hlen : len₂ = len := by rw [hdg] at hd₂; cases hd₂; rfl
    subst hlen
    have hs₂ : s₂ = (({ U with heap := s₂.heap, slotsUsed := s₂.slotsUsed } : State).setVm s₂.vm).setTop { g with pc := g.pc + len₂, stack := v.toList ++ g.stack } := by
      refine e3.trans ?_
      rw [hf₂, State.calling_eq h.top, State.setFrames_setFrames, State.setTop_of_frames _ hr', hr]
      rfl
    have hsame : U.sameButNew ({ U with heap := s₂.heap, slotsUsed := s₂.slotsUsed } : State) L mc ms := by
      refine ⟨?_, q2, q3, q4, q5, q6⟩
      obtain ⟨t, ht, -⟩ := State.frames_cons hr
      show ({ U with heap := s₂.heap, slotsUsed := s₂.slotsUsed } : State) = { U.setFrames U.frames with heap := s₂.heap, slotsUsed := s₂.slotsUsed }
      rw [State.setFrames_self ht]
    subst hg
    refine Or.inl ⟨v, ⟨(({ U with heap := s₂.heap, slotsUsed := s₂.slotsUsed } : State).setVm s₂.vm), Ls ++ L, c0 + mc, s0 + ms⟩,
      ⟨X.admits, X.cas, X.clock, X.frames, X.room, X.hears, X.method, X.code, (X.here.setHeapUsed s₂.heap s₂.slotsUsed).setVm hW'.alike, X.tail, State.WarmedH.trans X.warmed hW', X.limits, X.bytes, X.same.trans (hsame.setVm s.vm)⟩,
      ⟨g, mk, s₂, L, rfl, rfl, hqc, rfl, hL, rfl, rfl⟩, ?_⟩
    show Steps p.tables e below _ ((({ U with heap := s₂.heap, slotsUsed := s₂.slotsUsed } : State).setVm s₂.vm).setTop { g with pc := g.pc + len₂, stack := v.toList ++ g.stack })
    rw [← hs₂]
    exact hsteps
  · obtain ⟨e2, q2, q3, q4, q5, q6⟩ := id hsm
    have e3 : s₂ = ({ (U.calling g mk a).setFrames s₂.frames with heap := s₂.heap, slotsUsed := s₂.slotsUsed } : State).setVm s₂.vm := by
      have : s₂ = ({ s₂ with vm := (U.calling g mk a).vm } : State).setVm s₂.vm := rfl
      rw [e2] at this
      exact this
    have hf₂ : s₂.frames = .throwing q :: .java g :: U.frames.tail := hend
    have hW' : U.WarmedH s₂.vm := hW₂
    have hs₂ : s₂ = ((({ U with heap := s₂.heap, slotsUsed := s₂.slotsUsed } : State).setVm s₂.vm).setTop g).pushFrame (.throwing q) := by
      refine e3.trans ?_
      rw [hf₂, State.calling_eq h.top, State.setFrames_setFrames, State.pushFrame, State.frames_setTop _ hr', State.setTop_of_frames _ hr', State.setFrames_setFrames, hr]
      rfl
    have hsame : U.sameButNew ({ U with heap := s₂.heap, slotsUsed := s₂.slotsUsed } : State) L mc ms := by
      refine ⟨?_, q2, q3, q4, q5, q6⟩
      obtain ⟨t, ht, -⟩ := State.frames_cons hr
      show ({ U with heap := s₂.heap, slotsUsed := s₂.slotsUsed } : State) = { U.setFrames U.frames with heap := s₂.heap, slotsUsed := s₂.slotsUsed }
      rw [State.setFrames_self ht]
    subst hg
    refine Or.inr ⟨q, ⟨(({ U with heap := s₂.heap, slotsUsed := s₂.slotsUsed } : State).setVm s₂.vm), Ls ++ L, c0 + mc, s0 + ms⟩,
      ⟨X.admits, X.cas, X.clock, X.frames, X.room, X.hears, X.method, X.code, (X.here.setHeapUsed s₂.heap s₂.slotsUsed).setVm hW'.alike, X.tail, State.WarmedH.trans X.warmed hW', X.limits, X.bytes, X.same.trans (hsame.setVm s.vm)⟩,
      ⟨g, mk, s₂, L, E, ce, rfl, rfl, hx, hce, hcv, hcl, rfl, hL, rfl, rfl⟩, ?_⟩
    show Steps p.tables e below _ (((({ U with heap := s₂.heap, slotsUsed := s₂.slotsUsed } : State).setVm s₂.vm).setTop g).pushFrame (.throwing q))
    rw [← hs₂]
    exact hsteps
end
variable {p : Program} {l : Launch} {e : Env} {R : Room} {s : State} {m : MethodId} {args : Array Value} {below : List Frame} {meth : Method} {c : Code} {T : State} {H : Heap} {locs : List Loc} {cells slots : Nat}
theorem vx_callVX (X : Stand p l e R s m args below meth c T locs cells slots) (hexec : p.tables.exec = Jvm.exec) {own C : String} {index : Nat} {y : MethodName} {bytes : ByteArray} {maxL : Nat} {ret : Option FieldType} {hh : List (Nat × Nat × Nat × Nat)}
    (hown : s.vm.findClass own = some m.cls) (hlink : (Cond.methodLink own index y).before args s = true) (hinst : (Cond.instanceMethod y).before args s = true) (hsel : (Cond.selects C y y).before args s = true)
    (hcode : (Cond.codeWith y bytes maxL ret hh).before args s = true) (hy : y.cls ≠ "java/lang/invoke/MethodHandle" ∧ y.cls ≠ "java/lang/invoke/VarHandle")
    {W9 : Nat} {Pre : Pt → Array Value → Prop} {Post : Pt → Array Value → Option Value → Pt → Prop} {PostX : Pt → Array Value → Addr → Pt → Prop} (hK : vx_Back l R p e below s args y 3 W9 Pre Post PostX)
    {b : Addr} {cellB : Cell} (hcell : T.heap[b]? = some cellB) (hobj : cellB.vm.isStatics = false) (hcls : s.vm.findClass C = some cellB.cls)
    {g : JFrame} (hg : g.method = m) (hsize : g.locals.size = c.maxLocals) {argsL rest : List Value} (hlen : ∀ sig, parseMethodDescriptor y.desc = some sig → argsL.length = sig.parameters.length)
    (hstack : g.stack = argsL.reverse ++ .ref b :: rest) (hW : 2 * g.monitorRoom + (rest.map fun v => v.category).sum ≤ W9) (hdg : decode c.code g.pc = .ok (.invokevirtual index, 3))
    (hpre : ∀ vm₁, s.WarmedH vm₁ → Pre ⟨T.setVm vm₁, locs, cells, slots⟩ (Value.ref b :: argsL).toArray) :
    (∃ (v : Option Value) (vm₁ : Vm) (B : Pt), s.WarmedH vm₁ ∧ Stand p l e R s m args below meth c B.U B.locs B.cells B.slots ∧ Post ⟨T.setVm vm₁, locs, cells, slots⟩ (Value.ref b :: argsL).toArray v B ∧
      ∀ target, Steps p.tables e below (B.U.setTop { g with pc := g.pc + 3, stack := v.toList ++ rest }) target → Steps p.tables e below (T.setTop g) target) ∨
    (∃ (q : Addr) (vm₁ : Vm) (B : Pt), s.WarmedH vm₁ ∧ Stand p l e R s m args below meth c B.U B.locs B.cells B.slots ∧ PostX ⟨T.setVm vm₁, locs, cells, slots⟩ (Value.ref b :: argsL).toArray q B ∧
      Steps p.tables e below (T.setTop g) ((B.U.setTop { g with stack := rest }).pushFrame (.throwing q))) := by
  obtain ⟨mk, methM, hnamed, hmethM, hstM, habM⟩ := Cond.instanceMethod_spec hinst
  obtain ⟨m8, methM', cM, hn8, hmethM', -, -, -, -, -, -, hsigM⟩ := Cond.codeWith_spec hcode
  cases Option.some.inj (hn8.symm.trans hnamed)
  cases hmethM.symm.trans hmethM'
  obtain ⟨c2, r2, m2, q1, q2, q3, q4, kP, hkP, hkPi⟩ := Cond.selects_spec hsel
  cases hcls.symm.trans q1
  cases (State.methodFound?_of_named hnamed hy).symm.trans q2
  cases hnamed.symm.trans q3
  have hselP : selectMethod e.platform s.vm cellB.cls mk = .method mk := by rw [Launch.admits_selectMethod X.admits]; exact q4
  obtain ⟨vm₁, X₁, hstep₁⟩ := X.invokevirtual hexec hown hlink hnamed hmethM hstM hkP hkPi hy (a := b) (cell := cellB) hcell
    (fun z h => by rw [h] at hobj; cases hobj) hselP hmethM habM hkP hkPi (g := g) hg (argsL := argsL) (rest := rest) (hlen _ hsigM) hstack hdg
  rcases hK m meth c ⟨T.setVm vm₁, locs, cells, slots⟩ { g with stack := rest } (.invokevirtual index) mk (Value.ref b :: argsL).toArray X₁ hg hsize hdg hW (X₁.named hnamed) (hpre vm₁ X₁.warmed) with ⟨v, B, X', hpost, hsteps⟩ | ⟨q, B, X', hpost, hsteps⟩
  · exact Or.inl ⟨v, vm₁, B, X₁.warmed, X', hpost, fun target h => hstep₁ _ fun acts => by rw [doInvoke_state]; exact hsteps.trans h⟩
  · exact Or.inr ⟨q, vm₁, B, X₁.warmed, X', hpost, hstep₁ _ fun acts => by rw [doInvoke_state]; exact hsteps⟩
theorem vx_callSX (X : Stand p l e R s m args below meth c T locs cells slots) (hexec : p.tables.exec = Jvm.exec) {own : String} {index : Nat} {y : MethodName} {bytes : ByteArray} {maxL : Nat} {ret : Option FieldType} {hh : List (Nat × Nat × Nat × Nat)}
    (hown : s.vm.findClass own = some m.cls) (hlink : (Cond.methodLink own index y).before args s = true) (hstat : (Cond.static y).before args s = true) (hinit : (Cond.initialized y.cls).before args s = true)
    (hcode : (Cond.codeWith y bytes maxL ret hh).before args s = true) (hy : y.cls ≠ "java/lang/invoke/MethodHandle" ∧ y.cls ≠ "java/lang/invoke/VarHandle")
    {W9 : Nat} {Pre : Pt → Array Value → Prop} {Post : Pt → Array Value → Option Value → Pt → Prop} {PostX : Pt → Array Value → Addr → Pt → Prop} (hK : vx_Back l R p e below s args y 3 W9 Pre Post PostX)
    {g : JFrame} (hg : g.method = m) (hsize : g.locals.size = c.maxLocals) {argsL rest : List Value} (hlen : ∀ sig, parseMethodDescriptor y.desc = some sig → argsL.length = sig.parameters.length)
    (hstack : g.stack = argsL.reverse ++ rest) (hW : 2 * g.monitorRoom + (rest.map fun v => v.category).sum ≤ W9) (hdg : decode c.code g.pc = .ok (.invokestatic index, 3))
    (hpre : ∀ vm₁, s.WarmedH vm₁ → Pre ⟨T.setVm vm₁, locs, cells, slots⟩ argsL.toArray) :
    (∃ (v : Option Value) (vm₁ : Vm) (B : Pt), s.WarmedH vm₁ ∧ Stand p l e R s m args below meth c B.U B.locs B.cells B.slots ∧ Post ⟨T.setVm vm₁, locs, cells, slots⟩ argsL.toArray v B ∧
      ∀ target, Steps p.tables e below (B.U.setTop { g with pc := g.pc + 3, stack := v.toList ++ rest }) target → Steps p.tables e below (T.setTop g) target) ∨
    (∃ (q : Addr) (vm₁ : Vm) (B : Pt), s.WarmedH vm₁ ∧ Stand p l e R s m args below meth c B.U B.locs B.cells B.slots ∧ PostX ⟨T.setVm vm₁, locs, cells, slots⟩ argsL.toArray q B ∧
      Steps p.tables e below (T.setTop g) ((B.U.setTop { g with stack := rest }).pushFrame (.throwing q))) := by
  obtain ⟨mk, methM, cM, hnamed, hmethM, -, -, -, -, -, -, hsigM⟩ := Cond.codeWith_spec hcode
  have hstatic : methM.isStatic = true := Cond.static_spec hnamed hmethM hstat
  obtain ⟨kP, hkP, -⟩ := className_of_methodNamed hnamed
  have hinitP : kP.init = .initialized := Cond.initialized_spec (findClass_of_methodNamed hnamed) hkP hinit
  obtain ⟨vm₁, X₁, hstep₁⟩ := X.invokestatic hexec hown hlink hnamed hmethM hstatic hkP hinitP hy (g := g) hg (argsL := argsL) (rest := rest) (hlen _ hsigM) hstack hdg
  rcases hK m meth c ⟨T.setVm vm₁, locs, cells, slots⟩ { g with stack := rest } (.invokestatic index) mk argsL.toArray X₁ hg hsize hdg hW (X₁.named hnamed) (hpre vm₁ X₁.warmed) with ⟨v, B, X', hpost, hsteps⟩ | ⟨q, B, X', hpost, hsteps⟩
  · exact Or.inl ⟨v, vm₁, B, X₁.warmed, X', hpost, fun target h => hstep₁ _ fun acts => by rw [doInvoke_state]; exact hsteps.trans h⟩
  · exact Or.inr ⟨q, vm₁, B, X₁.warmed, X', hpost, hstep₁ _ fun acts => by rw [doInvoke_state]; exact hsteps⟩
theorem vx_callVW (X : Stand p l e R s m args below meth c T locs cells slots) (hexec : p.tables.exec = Jvm.exec) {own C : String} {index : Nat} {y : MethodName} {bytes : ByteArray} {maxL : Nat} {ret : Option FieldType} {hh : List (Nat × Nat × Nat × Nat)}
    (hown : s.vm.findClass own = some m.cls) (hlink : (Cond.methodLink own index y).before args s = true) (hinst : (Cond.instanceMethod y).before args s = true) (hsel : (Cond.selects C y y).before args s = true)
    (hcode : (Cond.codeWith y bytes maxL ret hh).before args s = true) (hy : y.cls ≠ "java/lang/invoke/MethodHandle" ∧ y.cls ≠ "java/lang/invoke/VarHandle")
    {W9 : Nat} {Pre : Pt → Array Value → Prop} {Post : Pt → Array Value → Option Value → Pt → Prop} (hK : Back l R p e below s args y 3 W9 Pre Post)
    {b : Addr} {cellB : Cell} (hcell : T.heap[b]? = some cellB) (hobj : cellB.vm.isStatics = false) (hcls : s.vm.findClass C = some cellB.cls)
    {g : JFrame} (hg : g.method = m) (hsize : g.locals.size = c.maxLocals) {argsL rest : List Value} (hlen : ∀ sig, parseMethodDescriptor y.desc = some sig → argsL.length = sig.parameters.length)
    (hstack : g.stack = argsL.reverse ++ .ref b :: rest) (hW : 2 * g.monitorRoom + (rest.map fun v => v.category).sum ≤ W9) (hdg : decode c.code g.pc = .ok (.invokevirtual index, 3))
    (hpre : ∀ vm₁, s.WarmedH vm₁ → Pre ⟨T.setVm vm₁, locs, cells, slots⟩ (Value.ref b :: argsL).toArray) :
    ∃ (v : Option Value) (vm₁ : Vm) (B : Pt), s.WarmedH vm₁ ∧ Stand p l e R s m args below meth c B.U B.locs B.cells B.slots ∧ Post ⟨T.setVm vm₁, locs, cells, slots⟩ (Value.ref b :: argsL).toArray v B ∧
      ∀ target, Steps p.tables e below (B.U.setTop { g with pc := g.pc + 3, stack := v.toList ++ rest }) target → Steps p.tables e below (T.setTop g) target := by
  obtain ⟨mk, methM, hnamed, hmethM, hstM, habM⟩ := Cond.instanceMethod_spec hinst
  obtain ⟨m8, methM', cM, hn8, hmethM', -, -, -, -, -, -, hsigM⟩ := Cond.codeWith_spec hcode
  cases Option.some.inj (hn8.symm.trans hnamed)
  cases hmethM.symm.trans hmethM'
  obtain ⟨c2, r2, m2, q1, q2, q3, q4, kP, hkP, hkPi⟩ := Cond.selects_spec hsel
  cases hcls.symm.trans q1
  cases (State.methodFound?_of_named hnamed hy).symm.trans q2
  cases hnamed.symm.trans q3
  have hselP : selectMethod e.platform s.vm cellB.cls mk = .method mk := by rw [Launch.admits_selectMethod X.admits]; exact q4
  obtain ⟨vm₁, X₁, hstep₁⟩ := X.invokevirtual hexec hown hlink hnamed hmethM hstM hkP hkPi hy (a := b) (cell := cellB) hcell
    (fun z h => by rw [h] at hobj; cases hobj) hselP hmethM habM hkP hkPi (g := g) hg (argsL := argsL) (rest := rest) (hlen _ hsigM) hstack hdg
  obtain ⟨v, B, X', hpost, hsteps⟩ := hK m meth c ⟨T.setVm vm₁, locs, cells, slots⟩ { g with stack := rest } (.invokevirtual index) mk (Value.ref b :: argsL).toArray X₁ hg hsize hdg hW (X₁.named hnamed) (hpre vm₁ X₁.warmed)
  exact ⟨v, vm₁, B, X₁.warmed, X', hpost, fun target h => hstep₁ _ fun acts => by rw [doInvoke_state]; exact hsteps.trans h⟩
abbrev vx_CVW (R : Room) (s : State) (args : Array Value) (own C : String) (index : Nat) (y : MethodName) (bytes : ByteArray) (maxL : Nat) (ret : Option FieldType) (hh : List (Nat × Nat × Nat × Nat)) (ws : List Cond) (rm : Room) (mc ms n : Nat) : Prop :=
  (rm.cells = mc ∧ rm.slots = ms ∧ rm.frames + 1 ≤ R.frames ∧ 8 + (maxL + 11) + rm.locals ≤ R.locals ∧ (∀ w ∈ ws, ∀ (a' : Array Value) (U : State), s.WarmedH U.vm → w.before a' U = true) ∧ Cond.codeWith y bytes maxL ret hh ∈ ws) ∧
  (Cond.codeWith y bytes maxL ret hh).before args s = true ∧ (Cond.initialized y.cls).before args s = true ∧ (y.cls ≠ "java/lang/invoke/MethodHandle" ∧ y.cls ≠ "java/lang/invoke/VarHandle") ∧
  (∀ sig, parseMethodDescriptor y.desc = some sig → n = sig.parameters.length) ∧ (Cond.methodLink own index y).before args s = true ∧ (Cond.instanceMethod y).before args s = true ∧ (Cond.selects C y y).before args s = true
theorem vx_cwVW {own C : String} {index maxL mc ms : Nat} {y : MethodName} {bytes : ByteArray} {ret : Option FieldType} {hh : List (Nat × Nat × Nat × Nat)} {Ts ws ws' : List Cond} {rm : Room} (n : Nat) (ht : ∀ w ∈ Ts, w.before args s = true) (hT : GoodIn Ts (wsV own index C y ws)) (hw : ws = Cond.codeWith y bytes maxL ret hh :: ws') (hrc : rm.cells = mc) (hrs : rm.slots = ms)
    (hd : y.cls = C ∧ y.cls ≠ "java/lang/invoke/MethodHandle" ∧ y.cls ≠ "java/lang/invoke/VarHandle" ∧ (parseMethodDescriptor y.desc).map (fun d => d.parameters.length) = some n) (hR : rm.frames + 1 ≤ R.frames ∧ 8 + (maxL + 11) + rm.locals ≤ R.locals) :
    vx_CVW R s args own C index y bytes maxL ret hh ws rm mc ms n := by
  obtain ⟨hC, hd⟩ := hd
  subst hC
  have ok : ∀ w ∈ wsV own index y.cls y ws, w.before args s = true := fun w h => ht w (hT w h).1
  have hG : GoodIn Ts ws := fun w h => hT w (by unfold wsV; exact List.mem_append_right _ h)
  have hc : Cond.codeWith y bytes maxL ret hh ∈ ws := by rw [hw]; exact List.mem_cons_self
  refine ⟨⟨hrc, hrs, hR.1, hR.2, pay_in ht hG, hc⟩, ht _ (hG _ hc).1, ok _ (by simp [wsV]), ⟨hd.1, hd.2.1⟩, fun sig h => ?_, ok _ (by simp [wsV]), ok _ (by simp [wsV]), ok _ (by simp [wsV])⟩
  have h2 := hd.2.2
  rw [h] at h2
  exact (Option.some.inj h2).symm
theorem vx_runVW {y : MethodName} {bytes cc : ByteArray} {maxL nL mc ms n index : Nat} {ret : Option FieldType} {hh : List (Nat × Nat × Nat × Nat)} {ws : List Cond} {rm : Room} {Pc : Array Value → State → Prop} {Qc : Array Value → State → Outcome → State → Prop} {free : Addr → Prop} {Ts : List Cond} {own C : String} {b : Addr} {As rest : List Value} {g : JFrame}
    (S : CallFix p m c cc nL s args Ts own) (hM : Met l y ws rm Pc Qc mc ms free) (cw : vx_CVW R s args own C index y bytes maxL ret hh ws rm mc ms n) (hp : PreV s H C b Pc As)
    (hg : g.method = m) (hn : As.length = n) (hsize : g.locals.size = nL) (hstack : g.stack = As.reverse ++ .ref b :: rest) (hW : 2 * g.monitorRoom + (rest.map fun v => v.category).sum ≤ 8) (hdg : decode cc g.pc = .ok (.invokevirtual index, 3)) (hf : cells + mc ≤ R.cells ∧ slots + ms ≤ R.slots) :
    va_Run p l e R s m args below meth c H locs cells slots mc ms g rest (Qc (Value.ref b :: As).toArray) free := by
  obtain ⟨⟨hrc, hrs, hfr, hlo, hws, hcw⟩, hcode, hini, hy, hlen, hl, hin, hse⟩ := cw
  have hK : Back l R p e below s args y 3 8 (PreOf R mc ms Pc) (PostOf Qc mc ms free) := va_backW (hh := hh) (bytes := bytes) (maxL := maxL) (ret := ret) hM hp.1 hrc hrs hfr hlo hws hcw (fun a' U hW => word_at hW (Or.inl (by first | rfl | simp [Cond.onTables, Cond.keeps, Cond.steady])) hini)
  obtain ⟨hx, hb, hml, ho, -⟩ := S
  obtain ⟨-, ⟨cellB, hcB, hoB, hclB⟩, hPc⟩ := hp
  intro T hT X
  obtain ⟨v, vm₁, ⟨U', l2, c2, s2⟩, hW₁, X', ⟨g', mk, t, L, e1, e2, hq, h1, hL, h2, h3⟩, st⟩ := vx_callVW X hx (C := C) (hh := hh) (bytes := bytes) (maxL := maxL) (ret := ret) ho hl hin hse hcode hy hK (by rw [hT]; exact hcB) hoB hclB hg (hsize.trans hml.symm) (argsL := As) (rest := rest) (fun sig h => hn.trans (hlen sig h)) hstack hW (by rw [hb]; exact hdg)
    (fun vm₁ hW₁ => ⟨hf.1, hf.2, hPc (T.setVm vm₁) hT hW₁⟩)
  dsimp only [Pt.U, Pt.locs, Pt.cells, Pt.slots] at X' e1 e2 h1 h2 h3 st
  subst h1; subst h2; subst h3
  exact ⟨v, (T.setVm vm₁).calling g' mk (Value.ref b :: As).toArray, t, U', L, hT, X', hL, e1, e2, hq, st⟩
section
variable {y : MethodName} {bytes cc : ByteArray} {maxL nL mc ms n index : Nat} {ret : Option FieldType} {ws : List Cond} {rm : Room} {Pc : Array Value → State → Prop} {Qc : Array Value → State → Outcome → State → Prop} {XC : String → State → State → Prop} {free : Addr → Prop} {Ts : List Cond} {own C : String} {b : Addr} {As rest : List Value} {g : JFrame}
theorem vx_runVX {hh : List (Nat × Nat × Nat × Nat)} (S : CallFix p m c cc nL s args Ts own) (hM : vx_Met l y ws rm Pc Qc XC mc ms free) (cw : vx_CVW R s args own C index y bytes maxL ret hh ws rm mc ms n) (hp : PreV s H C b Pc As)
    (hg : g.method = m) (hn : As.length = n) (hsize : g.locals.size = nL) (hstack : g.stack = As.reverse ++ .ref b :: rest) (hW : 2 * g.monitorRoom + (rest.map fun v => v.category).sum ≤ 8) (hdg : decode cc g.pc = .ok (.invokevirtual index, 3)) (hf : cells + mc ≤ R.cells ∧ slots + ms ≤ R.slots) :
    vx_Run p l e R s m args below meth c H locs cells slots mc ms g rest (Qc (Value.ref b :: As).toArray) XC free := by
  obtain ⟨⟨hrc, hrs, hfr, hlo, hws, hcw⟩, hcode, hini, hy, hlen, hl, hin, hse⟩ := cw
  have hK : vx_Back l R p e below s args y 3 8 (PreOf R mc ms Pc) (PostOf Qc mc ms free) (vx_Post XC mc ms free) := vx_backW (hh := hh) (bytes := bytes) (maxL := maxL) (ret := ret) hM hp.1 hrc hrs hfr hlo hws hcw (fun a' U hW => word_at hW (Or.inl (by first | rfl | simp [Cond.onTables, Cond.keeps, Cond.steady])) hini)
  obtain ⟨hx, hb, hml, ho, -⟩ := S
  obtain ⟨-, ⟨cellB, hcB, hoB, hclB⟩, hPc⟩ := hp
  intro T hT X
  rcases vx_callVX X hx (C := C) (hh := hh) (bytes := bytes) (maxL := maxL) (ret := ret) ho hl hin hse hcode hy hK (by rw [hT]; exact hcB) hoB hclB hg (hsize.trans hml.symm) (argsL := As) (rest := rest) (fun sig h => hn.trans (hlen sig h)) hstack hW (by rw [hb]; exact hdg)
    (fun vm₁ hW₁ => ⟨hf.1, hf.2, hPc (T.setVm vm₁) hT hW₁⟩) with ⟨v, vm₁, ⟨U', l2, c2, s2⟩, hW₁, X', ⟨g', mk, t, L, e1, e2, hq, h1, hL, h2, h3⟩, st⟩ | ⟨q, vm₁, ⟨U', l2, c2, s2⟩, hW₁, X', ⟨g', mk, t, L, E, ce, e1, e2, hq, hce, hcv, hcl, h1, hL, h2, h3⟩, st⟩
  · dsimp only [Pt.U, Pt.locs, Pt.cells, Pt.slots] at X' e1 e2 h1 h2 h3 st
    subst h1; subst h2; subst h3
    exact Or.inl ⟨v, (T.setVm vm₁).calling g' mk (Value.ref b :: As).toArray, t, U', L, hT, X', hL, e1, e2, hq, st⟩
  · dsimp only [Pt.U, Pt.locs, Pt.cells, Pt.slots] at X' e1 e2 h1 h2 h3 st hcl
    subst h1; subst h2; subst h3
    exact Or.inr ⟨q, (T.setVm vm₁).calling g' mk (Value.ref b :: As).toArray, t, U', L, E, ce, hT, X', hL, e1, e2, hq, hce, hcv, vx_cls hW₁ hcl, st⟩
theorem vx_runSX {hh : List (Nat × Nat × Nat × Nat)} (S : CallFix p m c cc nL s args Ts own) (hM : vx_Met l y ws rm Pc Qc XC mc ms free) (cw : vx_CSW R s args own index y bytes maxL ret hh ws rm mc ms n) (hp : PreS s H Pc As)
    (hg : g.method = m) (hn : As.length = n) (hsize : g.locals.size = nL) (hstack : g.stack = As.reverse ++ rest) (hW : 2 * g.monitorRoom + (rest.map fun v => v.category).sum ≤ 8) (hdg : decode cc g.pc = .ok (.invokestatic index, 3)) (hf : cells + mc ≤ R.cells ∧ slots + ms ≤ R.slots) :
    vx_Run p l e R s m args below meth c H locs cells slots mc ms g rest (Qc As.toArray) XC free := by
  obtain ⟨⟨hrc, hrs, hfr, hlo, hws, hcw⟩, hcode, hini, hy, hlen, hl, hstt⟩ := cw
  have hK : vx_Back l R p e below s args y 3 8 (PreOf R mc ms Pc) (PostOf Qc mc ms free) (vx_Post XC mc ms free) := vx_backW (hh := hh) (bytes := bytes) (maxL := maxL) (ret := ret) hM hp.1 hrc hrs hfr hlo hws hcw (fun a' U hW => word_at hW (Or.inl (by first | rfl | simp [Cond.onTables, Cond.keeps, Cond.steady])) hini)
  obtain ⟨hx, hb, hml, ho, -⟩ := S
  intro T hT X
  rcases vx_callSX X hx (hh := hh) (bytes := bytes) (maxL := maxL) (ret := ret) ho hl hstt hini hcode hy hK hg (hsize.trans hml.symm) (argsL := As) (rest := rest) (fun sig h => hn.trans (hlen sig h)) hstack hW (by rw [hb]; exact hdg)
    (fun vm₁ hW₁ => ⟨hf.1, hf.2, hp.2 (T.setVm vm₁) hT hW₁⟩) with ⟨v, vm₁, ⟨U', l2, c2, s2⟩, hW₁, X', ⟨g', mk, t, L, e1, e2, hq, h1, hL, h2, h3⟩, st⟩ | ⟨q, vm₁, ⟨U', l2, c2, s2⟩, hW₁, X', ⟨g', mk, t, L, E, ce, e1, e2, hq, hce, hcv, hcl, h1, hL, h2, h3⟩, st⟩
  · dsimp only [Pt.U, Pt.locs, Pt.cells, Pt.slots] at X' e1 e2 h1 h2 h3 st
    subst h1; subst h2; subst h3
    exact Or.inl ⟨v, (T.setVm vm₁).calling g' mk As.toArray, t, U', L, hT, X', hL, e1, e2, hq, st⟩
  · dsimp only [Pt.U, Pt.locs, Pt.cells, Pt.slots] at X' e1 e2 h1 h2 h3 st hcl
    subst h1; subst h2; subst h3
    exact Or.inr ⟨q, (T.setVm vm₁).calling g' mk As.toArray, t, U', L, E, ce, hT, X', hL, e1, e2, hq, hce, hcv, vx_cls hW₁ hcl, st⟩
end
end VXH
theorem vx_ofWH {l : Launch} {y : MethodName} {ws ws' : List Cond} {rm : Room} {Pc : Array Value → State → Prop} {Qc : Array Value → State → Outcome → State → Prop} {XC : String → State → State → Prop} {mc ms : Nat} {free : Addr → Prop} {cc : ByteArray} {maxL : Nat} {ret : Option FieldType} {hh : List (Nat × Nat × Nat × Nat)}
    (hy : plainName y.cls = true) (hw : ws = Cond.codeWith y cc maxL ret hh :: ws')
    (body : ∀ p e s m args below meth c s₁, BodyLoose p l y (headSpec ws rm) cc maxL ret e s m args below meth c s₁ → c.maxLocals = maxL → Pc args s →
      W p l e (headSpec ws rm).room s m args below meth c s.heap [] 0 0 (vx_MQ below Qc XC args s mc ms free) (entryFrame m args maxL)) : vx_Met l y ws rm Pc Qc XC mc ms free := by
  refine MetFree.of_bodyS (code := cc) (maxLocals := maxL) (ret := ret) hy ?_ ?_
  · intro args s m h hn
    obtain ⟨m9, meth, c, hn9, h1, h2, h3, h4, -, h5, h6, -⟩ := Cond.codeWith_spec (atoms_spec (ws := ws) h _ (by rw [hw]; exact List.mem_cons_self))
    cases hn.symm.trans hn9
    exact ⟨meth, c, h1, h2, h3, h4, h5, h6⟩
  · intro p e s m args below meth c s₁ B hml hP _
    have hh0 : s₁.heap = s.heap := by rw [B.state]; rfl
    obtain ⟨t, a1, o, b1, b2, b3⟩ := body p e s m args below meth c s₁ B hml hP s₁ hh0 (Stand.of_body B)
    exact ⟨t, o, a1, b1, b2, b3⟩
/-! ===== END ===== -/
end
section
def RX0 : String := "Stavehouse$Book"
def TX0 : u_T := fun k => match k with
  | 0 => ("Stavehouse$Book", "score", "LStavehouse$Score;", true)
  | 1 => ("Stavehouse$Book", "springs", "LStavehouse$Springs;", true)
  | 2 => ("Stavehouse$Book", "number", "I", false)
  | 3 => ("Stavehouse$Book", "itemCount", "I", false)
  | 4 => ("Stavehouse$Book", "firstBars", "[I", true)
  | 5 => ("Stavehouse$Book", "barItems", "[I", true)
  | 6 => ("Stavehouse$Book", "drawers", "[I", true)
  | 7 => ("Stavehouse$Book", "springSums", "[I", true)
  | _ => ("Stavehouse$Book", "leastSums", "[I", true)
def tyX0 : Nat → FieldType := fun k => match k with
  | 0 => .object "Stavehouse$Score"
  | 1 => .object "Stavehouse$Springs"
  | 2 => .int
  | 3 => .int
  | 4 => .array .int
  | 5 => .array .int
  | 6 => .array .int
  | 7 => .array .int
  | _ => .array .int
abbrev wsX00 : List Cond := u_ws RX0 TX0 9
theorem nmX0 : ∀ a, a < 9 → ∀ b, b < 9 → a ≠ b → (TX0 a).2.1 ≠ (TX0 b).2.1 := by decide +kernel
theorem tyX0_ok : ∀ k, k < 9 → parseFieldDescriptor (TX0 k).2.2.1 = some (tyX0 k) := by decide +kernel
abbrev cX0_init : ByteArray := prog_2_method_1_code
def yX0_init : MethodName := ⟨RX0, "<init>", "(LStavehouse$Score;)V"⟩
abbrev cX0_gather : ByteArray := prog_2_method_2_code
def yX0_gather : MethodName := ⟨RX0, "gather", "(I)V"⟩
abbrev cX0_drawerOf : ByteArray := prog_2_method_3_code
def yX0_drawerOf : MethodName := ⟨RX0, "drawerOf", "(I)I"⟩
abbrev cX0_addItem : ByteArray := prog_2_method_4_code
def yX0_addItem : MethodName := ⟨RX0, "addItem", "(II)V"⟩
abbrev cX0_drawSpring : ByteArray := prog_2_method_5_code
def yX0_drawSpring : MethodName := ⟨RX0, "drawSpring", "(II)I"⟩
abbrev cX0_widthOf : ByteArray := prog_2_method_6_code
def yX0_widthOf : MethodName := ⟨RX0, "widthOf", "(II)I"⟩
abbrev cX0_leastOf : ByteArray := prog_2_method_7_code
def yX0_leastOf : MethodName := ⟨RX0, "leastOf", "(II)I"⟩
def RX1 : String := "Stavehouse$Copy"
def TX1 : u_T := fun k => match k with
  | 0 => ("Stavehouse$Copy", "score", "LStavehouse$Score;", true)
  | 1 => ("Stavehouse$Copy", "instrument", "I", false)
  | 2 => ("Stavehouse$Copy", "desk", "I", false)
  | _ => ("Stavehouse$Copy", "versions", "[I", true)
def tyX1 : Nat → FieldType := fun k => match k with
  | 0 => .object "Stavehouse$Score"
  | 1 => .int
  | 2 => .int
  | _ => .array .int
abbrev wsX10 : List Cond := u_ws RX1 TX1 4
theorem nmX1 : ∀ a, a < 4 → ∀ b, b < 4 → a ≠ b → (TX1 a).2.1 ≠ (TX1 b).2.1 := by decide +kernel
theorem tyX1_ok : ∀ k, k < 4 → parseFieldDescriptor (TX1 k).2.2.1 = some (tyX1 k) := by decide +kernel
abbrev cX1_init : ByteArray := prog_3_method_1_code
def yX1_init : MethodName := ⟨RX1, "<init>", "(LStavehouse$Score;)V"⟩
abbrev cX1_isOut : ByteArray := prog_3_method_2_code
def yX1_isOut : MethodName := ⟨RX1, "isOut", "()Z"⟩
abbrev cX1_takeVersions : ByteArray := prog_3_method_3_code
def yX1_takeVersions : MethodName := ⟨RX1, "takeVersions", "()V"⟩
abbrev cX1_scoreVersion : ByteArray := prog_3_method_4_code
def yX1_scoreVersion : MethodName := ⟨RX1, "scoreVersion", "(I)I"⟩
abbrev cX1_versionOf : ByteArray := prog_3_method_5_code
def yX1_versionOf : MethodName := ⟨RX1, "versionOf", "(I)I"⟩
abbrev cX1_lacks : ByteArray := prog_3_method_6_code
def yX1_lacks : MethodName := ⟨RX1, "lacks", "(I)Z"⟩
abbrev cX1_owes : ByteArray := prog_3_method_7_code
def yX1_owes : MethodName := ⟨RX1, "owes", "(I)Z"⟩
abbrev cX1_countDebts : ByteArray := prog_3_method_8_code
def yX1_countDebts : MethodName := ⟨RX1, "countDebts", "()I"⟩
def RX2 : String := "Stavehouse$Desk"
def TX2 : u_T := fun k => match k with
  | 0 => ("Stavehouse$Desk", "signs", "[I", true)
  | 1 => ("Stavehouse$Desk", "markVersions", "[I", true)
  | 2 => ("Stavehouse$Desk", "bowings", "[I", true)
  | _ => ("Stavehouse$Desk", "bowVersions", "[I", true)
def tyX2 : Nat → FieldType := fun k => match k with
  | 0 => .array .int
  | 1 => .array .int
  | 2 => .array .int
  | _ => .array .int
abbrev wsX20 : List Cond := u_ws RX2 TX2 4
theorem nmX2 : ∀ a, a < 4 → ∀ b, b < 4 → a ≠ b → (TX2 a).2.1 ≠ (TX2 b).2.1 := by decide +kernel
theorem tyX2_ok : ∀ k, k < 4 → parseFieldDescriptor (TX2 k).2.2.1 = some (tyX2 k) := by decide +kernel
abbrev cX2_init : ByteArray := prog_4_method_1_code
def yX2_init : MethodName := ⟨RX2, "<init>", "()V"⟩
abbrev cX2_changeMark : ByteArray := prog_4_method_2_code
def yX2_changeMark : MethodName := ⟨RX2, "changeMark", "(III)I"⟩
abbrev cX2_countOldMarks : ByteArray := prog_4_method_3_code
def yX2_countOldMarks : MethodName := ⟨RX2, "countOldMarks", "(LStavehouse$Score;)I"⟩
abbrev cX2_bowingAt : ByteArray := prog_4_method_4_code
def yX2_bowingAt : MethodName := ⟨RX2, "bowingAt", "(III)I"⟩
abbrev cX2_changeBowing : ByteArray := prog_4_method_5_code
def yX2_changeBowing : MethodName := ⟨RX2, "changeBowing", "(IIII)I"⟩
def RX3 : String := "Stavehouse$Paper"
def TX3 : u_T := fun k => match k with
  | 0 => ("Stavehouse$Paper", "book", "LStavehouse$Book;", true)
  | 1 => ("Stavehouse$Paper", "paperWidth", "I", false)
  | 2 => ("Stavehouse$Paper", "pageLines", "I", false)
  | 3 => ("Stavehouse$Paper", "turnCosts", "[I", true)
  | 4 => ("Stavehouse$Paper", "costs", "[[I", true)
  | 5 => ("Stavehouse$Paper", "lineCounts", "[[I", true)
  | 6 => ("Stavehouse$Paper", "lineEnds", "[[I", true)
  | 7 => ("Stavehouse$Paper", "lineCount", "I", false)
  | 8 => ("Stavehouse$Paper", "turnSum", "I", false)
  | 9 => ("Stavehouse$Paper", "lineStarts", "[I", true)
  | _ => ("Stavehouse$Paper", "itemLines", "[I", true)
def tyX3 : Nat → FieldType := fun k => match k with
  | 0 => .object "Stavehouse$Book"
  | 1 => .int
  | 2 => .int
  | 3 => .array .int
  | 4 => .array (.array .int)
  | 5 => .array (.array .int)
  | 6 => .array (.array .int)
  | 7 => .int
  | 8 => .int
  | 9 => .array .int
  | _ => .array .int
abbrev wsX30 : List Cond := u_ws RX3 TX3 11
theorem nmX3 : ∀ a, a < 11 → ∀ b, b < 11 → a ≠ b → (TX3 a).2.1 ≠ (TX3 b).2.1 := by decide +kernel
theorem tyX3_ok : ∀ k, k < 11 → parseFieldDescriptor (TX3 k).2.2.1 = some (tyX3 k) := by decide +kernel
abbrev cX3_init : ByteArray := prog_5_method_1_code
def yX3_init : MethodName := ⟨RX3, "<init>", "(LStavehouse$Book;)V"⟩
abbrev cX3_breakLines : ByteArray := prog_5_method_2_code
def yX3_breakLines : MethodName := ⟨RX3, "breakLines", "()V"⟩
abbrev cX3_priceTurns : ByteArray := prog_5_method_3_code
def yX3_priceTurns : MethodName := ⟨RX3, "priceTurns", "()V"⟩
abbrev cX3_chooseLine : ByteArray := prog_5_method_4_code
def yX3_chooseLine : MethodName := ⟨RX3, "chooseLine", "(II)V"⟩
abbrev cX3_setLines : ByteArray := prog_5_method_5_code
def yX3_setLines : MethodName := ⟨RX3, "setLines", "()V"⟩
abbrev cX3_nextOnPage : ByteArray := prog_5_method_6_code
def yX3_nextOnPage : MethodName := ⟨RX3, "nextOnPage", "(I)I"⟩
abbrev cX3_mayBeLine : ByteArray := prog_5_method_7_code
def yX3_mayBeLine : MethodName := ⟨RX3, "mayBeLine", "(II)Z"⟩
abbrev cX3_badness : ByteArray := prog_5_method_8_code
def yX3_badness : MethodName := ⟨RX3, "badness", "(II)I"⟩
abbrev cX3_turnAhead : ByteArray := prog_5_method_9_code
def yX3_turnAhead : MethodName := ⟨RX3, "turnAhead", "(II)I"⟩
abbrev cX3_leastCost : ByteArray := prog_5_method_10_code
def yX3_leastCost : MethodName := ⟨RX3, "leastCost", "()I"⟩
abbrev cX3_leastByTrying : ByteArray := prog_5_method_11_code
def yX3_leastByTrying : MethodName := ⟨RX3, "leastByTrying", "()I"⟩
abbrev cX3_leastOfAllWays : ByteArray := prog_5_method_12_code
def yX3_leastOfAllWays : MethodName := ⟨RX3, "leastOfAllWays", "(III)I"⟩
abbrev cX3_springAt : ByteArray := prog_5_method_13_code
def yX3_springAt : MethodName := ⟨RX3, "springAt", "(II)I"⟩
abbrev cX3_shrunkAhead : ByteArray := prog_5_method_14_code
def yX3_shrunkAhead : MethodName := ⟨RX3, "shrunkAhead", "(IIII)I"⟩
abbrev cX3_stretchedAhead : ByteArray := prog_5_method_15_code
def yX3_stretchedAhead : MethodName := ⟨RX3, "stretchedAhead", "(IIII)I"⟩
def RX4 : String := "Stavehouse$Score"
def TX4 : u_T := fun k => match k with
  | 0 => ("Stavehouse$Score", "barCount", "I", false)
  | 1 => ("Stavehouse$Score", "barLengths", "[I", true)
  | 2 => ("Stavehouse$Score", "barTimes", "[I", true)
  | 3 => ("Stavehouse$Score", "barVersions", "[I", true)
  | 4 => ("Stavehouse$Score", "noteCounts", "[I", true)
  | 5 => ("Stavehouse$Score", "noteLengths", "[I", true)
  | _ => ("Stavehouse$Score", "notePitches", "[I", true)
def tyX4 : Nat → FieldType := fun k => match k with
  | 0 => .int
  | 1 => .array .int
  | 2 => .array .int
  | 3 => .array .int
  | 4 => .array .int
  | 5 => .array .int
  | _ => .array .int
abbrev wsX40 : List Cond := u_ws RX4 TX4 7
theorem nmX4 : ∀ a, a < 7 → ∀ b, b < 7 → a ≠ b → (TX4 a).2.1 ≠ (TX4 b).2.1 := by decide +kernel
theorem tyX4_ok : ∀ k, k < 7 → parseFieldDescriptor (TX4 k).2.2.1 = some (tyX4 k) := by decide +kernel
abbrev cX4_init : ByteArray := prog_6_method_1_code
def yX4_init : MethodName := ⟨RX4, "<init>", "()V"⟩
abbrev cX4_addBar : ByteArray := prog_6_method_2_code
def yX4_addBar : MethodName := ⟨RX4, "addBar", "(I)I"⟩
abbrev cX4_addNote : ByteArray := prog_6_method_3_code
def yX4_addNote : MethodName := ⟨RX4, "addNote", "(III)I"⟩
abbrev cX4_changePitch : ByteArray := prog_6_method_4_code
def yX4_changePitch : MethodName := ⟨RX4, "changePitch", "(III)I"⟩
abbrev cX4_takeNotes : ByteArray := prog_6_method_5_code
def yX4_takeNotes : MethodName := ⟨RX4, "takeNotes", "(I)I"⟩
abbrev cX4_lengthAt : ByteArray := prog_6_method_6_code
def yX4_lengthAt : MethodName := ⟨RX4, "lengthAt", "(II)I"⟩
abbrev cX4_pitchAt : ByteArray := prog_6_method_7_code
def yX4_pitchAt : MethodName := ⟨RX4, "pitchAt", "(II)I"⟩
abbrev cX4_filled : ByteArray := prog_6_method_8_code
def yX4_filled : MethodName := ⟨RX4, "filled", "(I)I"⟩
abbrev cX4_countTime : ByteArray := prog_6_method_9_code
def yX4_countTime : MethodName := ⟨RX4, "countTime", "(I)I"⟩
abbrev cX4_isSilent : ByteArray := prog_6_method_10_code
def yX4_isSilent : MethodName := ⟨RX4, "isSilent", "(II)Z"⟩
abbrev cX4_cuePlayer : ByteArray := prog_6_method_11_code
def yX4_cuePlayer : MethodName := ⟨RX4, "cuePlayer", "(II)I"⟩
abbrev cX4_silenceAround : ByteArray := prog_6_method_12_code
def yX4_silenceAround : MethodName := ⟨RX4, "silenceAround", "(II)I"⟩
abbrev cX4_silenceAtEnd : ByteArray := prog_6_method_13_code
def yX4_silenceAtEnd : MethodName := ⟨RX4, "silenceAtEnd", "(II)I"⟩
abbrev cX4_silenceAtBeginning : ByteArray := prog_6_method_14_code
def yX4_silenceAtBeginning : MethodName := ⟨RX4, "silenceAtBeginning", "(II)I"⟩
def RX5 : String := "Stavehouse$Springs"
def TX5 : u_T := fun k => match k with
  | 0 => ("Stavehouse$Springs", "springCount", "I", false)
  | 1 => ("Stavehouse$Springs", "starts", "[I", true)
  | 2 => ("Stavehouse$Springs", "widthSums", "[I", true)
  | 3 => ("Stavehouse$Springs", "leastSums", "[I", true)
  | _ => ("Stavehouse$Springs", "sounding", "[I", true)
def tyX5 : Nat → FieldType := fun k => match k with
  | 0 => .int
  | 1 => .array .int
  | 2 => .array .int
  | 3 => .array .int
  | _ => .array .int
abbrev wsX50 : List Cond := u_ws RX5 TX5 5
theorem nmX5 : ∀ a, a < 5 → ∀ b, b < 5 → a ≠ b → (TX5 a).2.1 ≠ (TX5 b).2.1 := by decide +kernel
theorem tyX5_ok : ∀ k, k < 5 → parseFieldDescriptor (TX5 k).2.2.1 = some (tyX5 k) := by decide +kernel
abbrev cX5_init : ByteArray := prog_7_method_1_code
def yX5_init : MethodName := ⟨RX5, "<init>", "()V"⟩
abbrev cX5_draw : ByteArray := prog_7_method_2_code
def yX5_draw : MethodName := ⟨RX5, "draw", "(LStavehouse$Score;II)V"⟩
abbrev cX5_addPlaces : ByteArray := prog_7_method_3_code
def yX5_addPlaces : MethodName := ⟨RX5, "addPlaces", "(LStavehouse$Score;II)V"⟩
abbrev cX5_addPlace : ByteArray := prog_7_method_4_code
def yX5_addPlace : MethodName := ⟨RX5, "addPlace", "(IZ)V"⟩
abbrev cX5_addSprings : ByteArray := prog_7_method_5_code
def yX5_addSprings : MethodName := ⟨RX5, "addSprings", "(I)V"⟩
abbrev cX5_nextPlace : ByteArray := prog_7_method_6_code
def yX5_nextPlace : MethodName := ⟨RX5, "nextPlace", "(II)I"⟩
abbrev cX5_naturalWidth : ByteArray := prog_7_method_7_code
def yX5_naturalWidth : MethodName := ⟨RX5, "naturalWidth", "(I)I"⟩
abbrev cX5_addSpring : ByteArray := prog_7_method_8_code
def yX5_addSpring : MethodName := ⟨RX5, "addSpring", "(III)V"⟩
abbrev cX5_widthOfAll : ByteArray := prog_7_method_9_code
def yX5_widthOfAll : MethodName := ⟨RX5, "widthOfAll", "()I"⟩
abbrev cX5_leastOfAll : ByteArray := prog_7_method_10_code
def yX5_leastOfAll : MethodName := ⟨RX5, "leastOfAll", "()I"⟩
abbrev cX5_springFrom : ByteArray := prog_7_method_11_code
def yX5_springFrom : MethodName := ⟨RX5, "springFrom", "(I)I"⟩
def RX6 : String := "Stavehouse"
def TX6 : u_T := fun k => match k with
  | 0 => ("Stavehouse", "score", "LStavehouse$Score;", true)
  | 1 => ("Stavehouse", "opened", "LStavehouse$Book;", true)
  | 2 => ("Stavehouse", "paper", "LStavehouse$Paper;", true)
  | 3 => ("Stavehouse", "shelf", "[LStavehouse$Copy;", true)
  | 4 => ("Stavehouse", "desks", "[LStavehouse$Desk;", true)
  | 5 => ("Stavehouse", "copyCount", "I", false)
  | _ => ("Stavehouse", "concertCount", "I", false)
def tyX6 : Nat → FieldType := fun k => match k with
  | 0 => .object "Stavehouse$Score"
  | 1 => .object "Stavehouse$Book"
  | 2 => .object "Stavehouse$Paper"
  | 3 => .array (.object "Stavehouse$Copy")
  | 4 => .array (.object "Stavehouse$Desk")
  | 5 => .int
  | _ => .int
abbrev wsX60 : List Cond := u_ws RX6 TX6 7
theorem nmX6 : ∀ a, a < 7 → ∀ b, b < 7 → a ≠ b → (TX6 a).2.1 ≠ (TX6 b).2.1 := by decide +kernel
theorem tyX6_ok : ∀ k, k < 7 → parseFieldDescriptor (TX6 k).2.2.1 = some (tyX6 k) := by decide +kernel
abbrev cX6_init : ByteArray := prog_1_method_1_code
def yX6_init : MethodName := ⟨RX6, "<init>", "()V"⟩
abbrev cX6_bar : ByteArray := prog_1_method_2_code
def yX6_bar : MethodName := ⟨RX6, "bar", "(I)I"⟩
abbrev cX6_note : ByteArray := prog_1_method_3_code
def yX6_note : MethodName := ⟨RX6, "note", "(IIII)I"⟩
abbrev cX6_mend : ByteArray := prog_1_method_4_code
def yX6_mend : MethodName := ⟨RX6, "mend", "(IIII)I"⟩
abbrev cX6_empty : ByteArray := prog_1_method_5_code
def yX6_empty : MethodName := ⟨RX6, "empty", "(II)I"⟩
abbrev cX6_setPaper : ByteArray := prog_1_method_6_code
def yX6_setPaper : MethodName := ⟨RX6, "setPaper", "(II)I"⟩
abbrev cX6_copy : ByteArray := prog_1_method_7_code
def yX6_copy : MethodName := ⟨RX6, "copy", "(I)I"⟩
abbrev cX6_lend : ByteArray := prog_1_method_8_code
def yX6_lend : MethodName := ⟨RX6, "lend", "(II)I"⟩
abbrev cX6_giveBack : ByteArray := prog_1_method_9_code
def yX6_giveBack : MethodName := ⟨RX6, "giveBack", "(I)I"⟩
abbrev cX6_paste : ByteArray := prog_1_method_10_code
def yX6_paste : MethodName := ⟨RX6, "paste", "(I)I"⟩
abbrev cX6_mark : ByteArray := prog_1_method_11_code
def yX6_mark : MethodName := ⟨RX6, "mark", "(III)I"⟩
abbrev cX6_bow : ByteArray := prog_1_method_12_code
def yX6_bow : MethodName := ⟨RX6, "bow", "(IIII)I"⟩
abbrev cX6_play : ByteArray := prog_1_method_13_code
def yX6_play : MethodName := ⟨RX6, "play", "()I"⟩
abbrev cX6_bars : ByteArray := prog_1_method_14_code
def yX6_bars : MethodName := ⟨RX6, "bars", "()I"⟩
abbrev cX6_notes : ByteArray := prog_1_method_15_code
def yX6_notes : MethodName := ⟨RX6, "notes", "(II)I"⟩
abbrev cX6_noteAt : ByteArray := prog_1_method_16_code
def yX6_noteAt : MethodName := ⟨RX6, "noteAt", "(III)I"⟩
abbrev cX6_version : ByteArray := prog_1_method_17_code
def yX6_version : MethodName := ⟨RX6, "version", "(II)I"⟩
abbrev cX6_time : ByteArray := prog_1_method_18_code
def yX6_time : MethodName := ⟨RX6, "time", "(I)I"⟩
abbrev cX6_timeByBars : ByteArray := prog_1_method_19_code
def yX6_timeByBars : MethodName := ⟨RX6, "timeByBars", "(I)I"⟩
abbrev cX6_items : ByteArray := prog_1_method_20_code
def yX6_items : MethodName := ⟨RX6, "items", "(I)I"⟩
abbrev cX6_itemOf : ByteArray := prog_1_method_21_code
def yX6_itemOf : MethodName := ⟨RX6, "itemOf", "(II)I"⟩
abbrev cX6_cue : ByteArray := prog_1_method_22_code
def yX6_cue : MethodName := ⟨RX6, "cue", "(II)I"⟩
abbrev cX6_width : ByteArray := prog_1_method_23_code
def yX6_width : MethodName := ⟨RX6, "width", "(II)I"⟩
abbrev cX6_lines : ByteArray := prog_1_method_24_code
def yX6_lines : MethodName := ⟨RX6, "lines", "(I)I"⟩
abbrev cX6_lineOf : ByteArray := prog_1_method_25_code
def yX6_lineOf : MethodName := ⟨RX6, "lineOf", "(II)I"⟩
abbrev cX6_cost : ByteArray := prog_1_method_26_code
def yX6_cost : MethodName := ⟨RX6, "cost", "(I)I"⟩
abbrev cX6_costByAll : ByteArray := prog_1_method_27_code
def yX6_costByAll : MethodName := ⟨RX6, "costByAll", "(I)I"⟩
abbrev cX6_turns : ByteArray := prog_1_method_28_code
def yX6_turns : MethodName := ⟨RX6, "turns", "(I)I"⟩
abbrev cX6_place : ByteArray := prog_1_method_29_code
def yX6_place : MethodName := ⟨RX6, "place", "(III)I"⟩
abbrev cX6_copies : ByteArray := prog_1_method_30_code
def yX6_copies : MethodName := ⟨RX6, "copies", "()I"⟩
abbrev cX6_deskOf : ByteArray := prog_1_method_31_code
def yX6_deskOf : MethodName := ⟨RX6, "deskOf", "(I)I"⟩
abbrev cX6_has : ByteArray := prog_1_method_32_code
def yX6_has : MethodName := ⟨RX6, "has", "(II)I"⟩
abbrev cX6_owed : ByteArray := prog_1_method_33_code
def yX6_owed : MethodName := ⟨RX6, "owed", "(I)I"⟩
abbrev cX6_markOf : ByteArray := prog_1_method_34_code
def yX6_markOf : MethodName := ⟨RX6, "markOf", "(III)I"⟩
abbrev cX6_oldMarks : ByteArray := prog_1_method_35_code
def yX6_oldMarks : MethodName := ⟨RX6, "oldMarks", "(I)I"⟩
abbrev cX6_clashes : ByteArray := prog_1_method_36_code
def yX6_clashes : MethodName := ⟨RX6, "clashes", "(I)I"⟩
abbrev cX6_concerts : ByteArray := prog_1_method_37_code
def yX6_concerts : MethodName := ⟨RX6, "concerts", "()I"⟩
abbrev cX6_needIndex : ByteArray := prog_1_method_38_code
def yX6_needIndex : MethodName := ⟨RX6, "needIndex", "(II)V"⟩
abbrev cX6_needValue : ByteArray := prog_1_method_39_code
def yX6_needValue : MethodName := ⟨RX6, "needValue", "(III)V"⟩
abbrev cX6_slotOf : ByteArray := prog_1_method_40_code
def yX6_slotOf : MethodName := ⟨RX6, "slotOf", "(II)I"⟩
abbrev cX6_needSlot : ByteArray := prog_1_method_41_code
def yX6_needSlot : MethodName := ⟨RX6, "needSlot", "(II)I"⟩
abbrev cX6_needCopyOut : ByteArray := prog_1_method_42_code
def yX6_needCopyOut : MethodName := ⟨RX6, "needCopyOut", "(I)LStavehouse$Copy;"⟩
abbrev cX6_deskHasPart : ByteArray := prog_1_method_43_code
def yX6_deskHasPart : MethodName := ⟨RX6, "deskHasPart", "(II)Z"⟩
abbrev cX6_copiesOut : ByteArray := prog_1_method_44_code
def yX6_copiesOut : MethodName := ⟨RX6, "copiesOut", "()I"⟩
abbrev cX6_anyCopyOwes : ByteArray := prog_1_method_45_code
def yX6_anyCopyOwes : MethodName := ⟨RX6, "anyCopyOwes", "()Z"⟩
abbrev cX6_clashesAt : ByteArray := prog_1_method_46_code
def yX6_clashesAt : MethodName := ⟨RX6, "clashesAt", "(LStavehouse$Desk;LStavehouse$Desk;I)I"⟩
abbrev cX6_openBook : ByteArray := prog_1_method_47_code
def yX6_openBook : MethodName := ⟨RX6, "openBook", "(I)V"⟩
abbrev cX6_breakBook : ByteArray := prog_1_method_48_code
def yX6_breakBook : MethodName := ⟨RX6, "breakBook", "(I)V"⟩
def RX7 : String := "StavehouseModel"
def TX7 : u_T := fun k => match k with
  | 0 => ("StavehouseModel", "lengths", "[I", true)
  | 1 => ("StavehouseModel", "noteLengths", "[I", true)
  | 2 => ("StavehouseModel", "pitches", "[I", true)
  | 3 => ("StavehouseModel", "counts", "[I", true)
  | 4 => ("StavehouseModel", "versions", "[I", true)
  | 5 => ("StavehouseModel", "bars", "I", false)
  | 6 => ("StavehouseModel", "paper", "I", false)
  | 7 => ("StavehouseModel", "page", "I", false)
  | 8 => ("StavehouseModel", "instruments", "[I", true)
  | 9 => ("StavehouseModel", "desks", "[I", true)
  | 10 => ("StavehouseModel", "has", "[I", true)
  | 11 => ("StavehouseModel", "copies", "I", false)
  | 12 => ("StavehouseModel", "concerts", "I", false)
  | 13 => ("StavehouseModel", "marks", "[I", true)
  | 14 => ("StavehouseModel", "markedAt", "[I", true)
  | 15 => ("StavehouseModel", "bowings", "[I", true)
  | 16 => ("StavehouseModel", "bowedAt", "[I", true)
  | 17 => ("StavehouseModel", "firsts", "[I", true)
  | 18 => ("StavehouseModel", "lasts", "[I", true)
  | 19 => ("StavehouseModel", "by", "[I", true)
  | 20 => ("StavehouseModel", "items", "I", false)
  | 21 => ("StavehouseModel", "springs", "[I", true)
  | 22 => ("StavehouseModel", "ats", "[I", true)
  | 23 => ("StavehouseModel", "widths", "[I", true)
  | 24 => ("StavehouseModel", "leasts", "[I", true)
  | 25 => ("StavehouseModel", "itemWidths", "[I", true)
  | 26 => ("StavehouseModel", "itemLeasts", "[I", true)
  | 27 => ("StavehouseModel", "costs", "[I", true)
  | 28 => ("StavehouseModel", "lines", "[I", true)
  | 29 => ("StavehouseModel", "takes", "[I", true)
  | 30 => ("StavehouseModel", "lineOf", "[I", true)
  | 31 => ("StavehouseModel", "lineCount", "I", false)
  | 32 => ("StavehouseModel", "turned", "I", false)
  | _ => ("StavehouseModel", "last", "I", false)
def tyX7 : Nat → FieldType := fun k => match k with
  | 0 => .array .int
  | 1 => .array .int
  | 2 => .array .int
  | 3 => .array .int
  | 4 => .array .int
  | 5 => .int
  | 6 => .int
  | 7 => .int
  | 8 => .array .int
  | 9 => .array .int
  | 10 => .array .int
  | 11 => .int
  | 12 => .int
  | 13 => .array .int
  | 14 => .array .int
  | 15 => .array .int
  | 16 => .array .int
  | 17 => .array .int
  | 18 => .array .int
  | 19 => .array .int
  | 20 => .int
  | 21 => .array .int
  | 22 => .array .int
  | 23 => .array .int
  | 24 => .array .int
  | 25 => .array .int
  | 26 => .array .int
  | 27 => .array .int
  | 28 => .array .int
  | 29 => .array .int
  | 30 => .array .int
  | 31 => .int
  | 32 => .int
  | _ => .int
abbrev wsX70 : List Cond := u_ws RX7 TX7 34
theorem nmX7 : ∀ a, a < 34 → ∀ b, b < 34 → a ≠ b → (TX7 a).2.1 ≠ (TX7 b).2.1 := by decide +kernel
theorem tyX7_ok : ∀ k, k < 34 → parseFieldDescriptor (TX7 k).2.2.1 = some (tyX7 k) := by decide +kernel
abbrev cX7_init : ByteArray := prog_9_method_1_code
def yX7_init : MethodName := ⟨RX7, "<init>", "()V"⟩
abbrev cX7_thrown : ByteArray := prog_9_method_2_code
def yX7_thrown : MethodName := ⟨RX7, "thrown", "()I"⟩
abbrev cX7_in : ByteArray := prog_9_method_3_code
def yX7_in : MethodName := ⟨RX7, "in", "(III)Z"⟩
abbrev cX7_goes : ByteArray := prog_9_method_4_code
def yX7_goes : MethodName := ⟨RX7, "goes", "(ZZZ)Z"⟩
abbrev cX7_isInstrument : ByteArray := prog_9_method_5_code
def yX7_isInstrument : MethodName := ⟨RX7, "isInstrument", "(I)Z"⟩
abbrev cX7_isBar : ByteArray := prog_9_method_6_code
def yX7_isBar : MethodName := ⟨RX7, "isBar", "(I)Z"⟩
abbrev cX7_isBook : ByteArray := prog_9_method_7_code
def yX7_isBook : MethodName := ⟨RX7, "isBook", "(I)Z"⟩
abbrev cX7_isCopy : ByteArray := prog_9_method_8_code
def yX7_isCopy : MethodName := ⟨RX7, "isCopy", "(I)Z"⟩
abbrev cX7_cell : ByteArray := prog_9_method_9_code
def yX7_cell : MethodName := ⟨RX7, "cell", "(II)I"⟩
abbrev cX7_bar : ByteArray := prog_9_method_10_code
def yX7_bar : MethodName := ⟨RX7, "bar", "(I)I"⟩
abbrev cX7_filled : ByteArray := prog_9_method_11_code
def yX7_filled : MethodName := ⟨RX7, "filled", "(II)I"⟩
abbrev cX7_note : ByteArray := prog_9_method_12_code
def yX7_note : MethodName := ⟨RX7, "note", "(IIII)I"⟩
abbrev cX7_isNote : ByteArray := prog_9_method_13_code
def yX7_isNote : MethodName := ⟨RX7, "isNote", "(III)Z"⟩
abbrev cX7_mend : ByteArray := prog_9_method_14_code
def yX7_mend : MethodName := ⟨RX7, "mend", "(IIII)I"⟩
abbrev cX7_empty : ByteArray := prog_9_method_15_code
def yX7_empty : MethodName := ⟨RX7, "empty", "(II)I"⟩
abbrev cX7_setPaper : ByteArray := prog_9_method_16_code
def yX7_setPaper : MethodName := ⟨RX7, "setPaper", "(II)I"⟩
abbrev cX7_copy : ByteArray := prog_9_method_17_code
def yX7_copy : MethodName := ⟨RX7, "copy", "(I)I"⟩
abbrev cX7_away : ByteArray := prog_9_method_18_code
def yX7_away : MethodName := ⟨RX7, "away", "()I"⟩
abbrev cX7_renews : ByteArray := prog_9_method_19_code
def yX7_renews : MethodName := ⟨RX7, "renews", "(I)V"⟩
abbrev cX7_lend : ByteArray := prog_9_method_20_code
def yX7_lend : MethodName := ⟨RX7, "lend", "(II)I"⟩
abbrev cX7_owes : ByteArray := prog_9_method_21_code
def yX7_owes : MethodName := ⟨RX7, "owes", "(II)Z"⟩
abbrev cX7_owedBy : ByteArray := prog_9_method_22_code
def yX7_owedBy : MethodName := ⟨RX7, "owedBy", "(I)I"⟩
abbrev cX7_isAway : ByteArray := prog_9_method_23_code
def yX7_isAway : MethodName := ⟨RX7, "isAway", "(I)Z"⟩
abbrev cX7_giveBack : ByteArray := prog_9_method_24_code
def yX7_giveBack : MethodName := ⟨RX7, "giveBack", "(I)I"⟩
abbrev cX7_paste : ByteArray := prog_9_method_25_code
def yX7_paste : MethodName := ⟨RX7, "paste", "(I)I"⟩
abbrev cX7_mark : ByteArray := prog_9_method_26_code
def yX7_mark : MethodName := ⟨RX7, "mark", "(III)I"⟩
abbrev cX7_bowing : ByteArray := prog_9_method_27_code
def yX7_bowing : MethodName := ⟨RX7, "bowing", "(III)I"⟩
abbrev cX7_bow : ByteArray := prog_9_method_28_code
def yX7_bow : MethodName := ⟨RX7, "bow", "(IIII)I"⟩
abbrev cX7_play : ByteArray := prog_9_method_29_code
def yX7_play : MethodName := ⟨RX7, "play", "()I"⟩
abbrev cX7_bars : ByteArray := prog_9_method_30_code
def yX7_bars : MethodName := ⟨RX7, "bars", "()I"⟩
abbrev cX7_notes : ByteArray := prog_9_method_31_code
def yX7_notes : MethodName := ⟨RX7, "notes", "(II)I"⟩
abbrev cX7_noteAt : ByteArray := prog_9_method_32_code
def yX7_noteAt : MethodName := ⟨RX7, "noteAt", "(III)I"⟩
abbrev cX7_version : ByteArray := prog_9_method_33_code
def yX7_version : MethodName := ⟨RX7, "version", "(II)I"⟩
abbrev cX7_time : ByteArray := prog_9_method_34_code
def yX7_time : MethodName := ⟨RX7, "time", "(I)I"⟩
abbrev cX7_timeByBars : ByteArray := prog_9_method_35_code
def yX7_timeByBars : MethodName := ⟨RX7, "timeByBars", "(I)I"⟩
abbrev cX7_isSilent : ByteArray := prog_9_method_36_code
def yX7_isSilent : MethodName := ⟨RX7, "isSilent", "(II)Z"⟩
abbrev cX7_cueFor : ByteArray := prog_9_method_37_code
def yX7_cueFor : MethodName := ⟨RX7, "cueFor", "(II)I"⟩
abbrev cX7_adds : ByteArray := prog_9_method_38_code
def yX7_adds : MethodName := ⟨RX7, "adds", "(III)V"⟩
abbrev cX7_laysItems : ByteArray := prog_9_method_39_code
def yX7_laysItems : MethodName := ⟨RX7, "laysItems", "(I)V"⟩
abbrev cX7_begins : ByteArray := prog_9_method_40_code
def yX7_begins : MethodName := ⟨RX7, "begins", "(III)I"⟩
abbrev cX7_halvings : ByteArray := prog_9_method_41_code
def yX7_halvings : MethodName := ⟨RX7, "halvings", "(I)I"⟩
abbrev cX7_laysSprings : ByteArray := prog_9_method_42_code
def yX7_laysSprings : MethodName := ⟨RX7, "laysSprings", "()V"⟩
abbrev cX7_silentTo : ByteArray := prog_9_method_43_code
def yX7_silentTo : MethodName := ⟨RX7, "silentTo", "(II)I"⟩
abbrev cX7_silentFrom : ByteArray := prog_9_method_44_code
def yX7_silentFrom : MethodName := ⟨RX7, "silentFrom", "(II)I"⟩
abbrev cX7_turnCost : ByteArray := prog_9_method_45_code
def yX7_turnCost : MethodName := ⟨RX7, "turnCost", "(II)I"⟩
abbrev cX7_badness : ByteArray := prog_9_method_46_code
def yX7_badness : MethodName := ⟨RX7, "badness", "(IZ)I"⟩
abbrev cX7_breaks : ByteArray := prog_9_method_47_code
def yX7_breaks : MethodName := ⟨RX7, "breaks", "(I)V"⟩
abbrev cX7_lays : ByteArray := prog_9_method_48_code
def yX7_lays : MethodName := ⟨RX7, "lays", "(I)V"⟩
abbrev cX7_itemWith : ByteArray := prog_9_method_49_code
def yX7_itemWith : MethodName := ⟨RX7, "itemWith", "(I)I"⟩
abbrev cX7_items : ByteArray := prog_9_method_50_code
def yX7_items : MethodName := ⟨RX7, "items", "(I)I"⟩
abbrev cX7_itemOf : ByteArray := prog_9_method_51_code
def yX7_itemOf : MethodName := ⟨RX7, "itemOf", "(II)I"⟩
abbrev cX7_cue : ByteArray := prog_9_method_52_code
def yX7_cue : MethodName := ⟨RX7, "cue", "(II)I"⟩
abbrev cX7_width : ByteArray := prog_9_method_53_code
def yX7_width : MethodName := ⟨RX7, "width", "(II)I"⟩
abbrev cX7_lines : ByteArray := prog_9_method_54_code
def yX7_lines : MethodName := ⟨RX7, "lines", "(I)I"⟩
abbrev cX7_lineOf : ByteArray := prog_9_method_55_code
def yX7_lineOf : MethodName := ⟨RX7, "lineOf", "(II)I"⟩
abbrev cX7_cost : ByteArray := prog_9_method_56_code
def yX7_cost : MethodName := ⟨RX7, "cost", "(I)I"⟩
abbrev cX7_costByAll : ByteArray := prog_9_method_57_code
def yX7_costByAll : MethodName := ⟨RX7, "costByAll", "(I)I"⟩
abbrev cX7_turns : ByteArray := prog_9_method_58_code
def yX7_turns : MethodName := ⟨RX7, "turns", "(I)I"⟩
abbrev cX7_springAt : ByteArray := prog_9_method_59_code
def yX7_springAt : MethodName := ⟨RX7, "springAt", "(II)I"⟩
abbrev cX7_placeOf : ByteArray := prog_9_method_60_code
def yX7_placeOf : MethodName := ⟨RX7, "placeOf", "(II)I"⟩
abbrev cX7_place : ByteArray := prog_9_method_61_code
def yX7_place : MethodName := ⟨RX7, "place", "(III)I"⟩
abbrev cX7_copies : ByteArray := prog_9_method_62_code
def yX7_copies : MethodName := ⟨RX7, "copies", "()I"⟩
abbrev cX7_deskOf : ByteArray := prog_9_method_63_code
def yX7_deskOf : MethodName := ⟨RX7, "deskOf", "(I)I"⟩
abbrev cX7_has : ByteArray := prog_9_method_64_code
def yX7_has : MethodName := ⟨RX7, "has", "(II)I"⟩
abbrev cX7_owed : ByteArray := prog_9_method_65_code
def yX7_owed : MethodName := ⟨RX7, "owed", "(I)I"⟩
abbrev cX7_markOf : ByteArray := prog_9_method_66_code
def yX7_markOf : MethodName := ⟨RX7, "markOf", "(III)I"⟩
abbrev cX7_oldMarks : ByteArray := prog_9_method_67_code
def yX7_oldMarks : MethodName := ⟨RX7, "oldMarks", "(I)I"⟩
abbrev cX7_clashes : ByteArray := prog_9_method_68_code
def yX7_clashes : MethodName := ⟨RX7, "clashes", "(I)I"⟩
abbrev cX7_concerts : ByteArray := prog_9_method_69_code
def yX7_concerts : MethodName := ⟨RX7, "concerts", "()I"⟩
def RJx145de : String := "java/io/Serializable"
def TJx145de : u_T := fun k => match k with
  | _ => ("", "", "", false)
def tyJx145de : Nat → FieldType := fun k => match k with
  | _ => .int
abbrev wsJx145de0 : List Cond := u_ws RJx145de TJx145de 0
theorem nmJx145de : ∀ a, a < 0 → ∀ b, b < 0 → a ≠ b → (TJx145de a).2.1 ≠ (TJx145de b).2.1 := by decide +kernel
theorem tyJx145de_ok : ∀ k, k < 0 → parseFieldDescriptor (TJx145de k).2.2.1 = some (tyJx145de k) := by decide +kernel
def RJ9 : String := "java/lang/Math"
def TJ9 : u_T := fun k => match k with
  | _ => ("", "", "", false)
def tyJ9 : Nat → FieldType := fun k => match k with
  | _ => .int
abbrev wsJ90 : List Cond := u_ws RJ9 TJ9 0
theorem nmJ9 : ∀ a, a < 0 → ∀ b, b < 0 → a ≠ b → (TJ9 a).2.1 ≠ (TJ9 b).2.1 := by decide +kernel
theorem tyJ9_ok : ∀ k, k < 0 → parseFieldDescriptor (TJ9 k).2.2.1 = some (tyJ9 k) := by decide +kernel
abbrev cJ9_max_7cf53 : ByteArray := prog_14_method_65_code
def yJ9_max_7cf53 : MethodName := ⟨RJ9, "max", "(II)I"⟩
abbrev cJ9_min_7cf53 : ByteArray := prog_14_method_69_code
def yJ9_min_7cf53 : MethodName := ⟨RJ9, "min", "(II)I"⟩
def RJ0 : String := "java/lang/String"
def TJ0 : u_T := fun k => match k with
  | _ => ("", "", "", false)
def tyJ0 : Nat → FieldType := fun k => match k with
  | _ => .int
abbrev wsJ00 : List Cond := u_ws RJ0 TJ0 0
theorem nmJ0 : ∀ a, a < 0 → ∀ b, b < 0 → a ≠ b → (TJ0 a).2.1 ≠ (TJ0 b).2.1 := by decide +kernel
theorem tyJ0_ok : ∀ k, k < 0 → parseFieldDescriptor (TJ0 k).2.2.1 = some (tyJ0 k) := by decide +kernel
def RJ7 : String := "java/util/Arrays"
def TJ7 : u_T := fun k => match k with
  | _ => ("", "", "", false)
def tyJ7 : Nat → FieldType := fun k => match k with
  | _ => .int
abbrev wsJ70 : List Cond := u_ws RJ7 TJ7 0
theorem nmJ7 : ∀ a, a < 0 → ∀ b, b < 0 → a ≠ b → (TJ7 a).2.1 ≠ (TJ7 b).2.1 := by decide +kernel
theorem tyJ7_ok : ∀ k, k < 0 → parseFieldDescriptor (TJ7 k).2.2.1 = some (tyJ7 k) := by decide +kernel
abbrev cJ7_fill_53178 : ByteArray := prog_18_method_103_code
def yJ7_fill_53178 : MethodName := ⟨RJ7, "fill", "([II)V"⟩
def RL : String := "StavehouseLaw"
abbrev cL_bar : ByteArray := method_3_code
def yL_bar : MethodName := ⟨RL, "bar", "(LStavehouse;I[J)I"⟩
abbrev cL_note : ByteArray := method_4_code
def yL_note : MethodName := ⟨RL, "note", "(LStavehouse;IIII[J)I"⟩
abbrev cL_mend : ByteArray := method_5_code
def yL_mend : MethodName := ⟨RL, "mend", "(LStavehouse;IIII[J)I"⟩
abbrev cL_empty : ByteArray := method_6_code
def yL_empty : MethodName := ⟨RL, "empty", "(LStavehouse;II[J)I"⟩
abbrev cL_setPaper : ByteArray := method_7_code
def yL_setPaper : MethodName := ⟨RL, "setPaper", "(LStavehouse;II[J)I"⟩
abbrev cL_copy : ByteArray := method_8_code
def yL_copy : MethodName := ⟨RL, "copy", "(LStavehouse;I[J)I"⟩
abbrev cL_lend : ByteArray := method_9_code
def yL_lend : MethodName := ⟨RL, "lend", "(LStavehouse;II[J)I"⟩
abbrev cL_giveBack : ByteArray := method_10_code
def yL_giveBack : MethodName := ⟨RL, "giveBack", "(LStavehouse;I[J)I"⟩
abbrev cL_paste : ByteArray := method_11_code
def yL_paste : MethodName := ⟨RL, "paste", "(LStavehouse;I[J)I"⟩
abbrev cL_mark : ByteArray := method_12_code
def yL_mark : MethodName := ⟨RL, "mark", "(LStavehouse;III[J)I"⟩
abbrev cL_bow : ByteArray := method_13_code
def yL_bow : MethodName := ⟨RL, "bow", "(LStavehouse;IIII[J)I"⟩
abbrev cL_play : ByteArray := method_14_code
def yL_play : MethodName := ⟨RL, "play", "(LStavehouse;[J)I"⟩
abbrev cL_notes : ByteArray := method_15_code
def yL_notes : MethodName := ⟨RL, "notes", "(LStavehouse;II[J)I"⟩
abbrev cL_noteAt : ByteArray := method_16_code
def yL_noteAt : MethodName := ⟨RL, "noteAt", "(LStavehouse;III[J)I"⟩
abbrev cL_version : ByteArray := method_17_code
def yL_version : MethodName := ⟨RL, "version", "(LStavehouse;II[J)I"⟩
abbrev cL_time : ByteArray := method_18_code
def yL_time : MethodName := ⟨RL, "time", "(LStavehouse;I[J)I"⟩
abbrev cL_timeByBars : ByteArray := method_19_code
def yL_timeByBars : MethodName := ⟨RL, "timeByBars", "(LStavehouse;I[J)I"⟩
abbrev cL_items : ByteArray := method_20_code
def yL_items : MethodName := ⟨RL, "items", "(LStavehouse;I[J)I"⟩
abbrev cL_itemOf : ByteArray := method_21_code
def yL_itemOf : MethodName := ⟨RL, "itemOf", "(LStavehouse;II[J)I"⟩
abbrev cL_cue : ByteArray := method_22_code
def yL_cue : MethodName := ⟨RL, "cue", "(LStavehouse;II[J)I"⟩
abbrev cL_width : ByteArray := method_23_code
def yL_width : MethodName := ⟨RL, "width", "(LStavehouse;II[J)I"⟩
abbrev cL_lines : ByteArray := method_24_code
def yL_lines : MethodName := ⟨RL, "lines", "(LStavehouse;I[J)I"⟩
abbrev cL_lineOf : ByteArray := method_25_code
def yL_lineOf : MethodName := ⟨RL, "lineOf", "(LStavehouse;II[J)I"⟩
abbrev cL_cost : ByteArray := method_26_code
def yL_cost : MethodName := ⟨RL, "cost", "(LStavehouse;I[J)I"⟩
abbrev cL_costByAll : ByteArray := method_27_code
def yL_costByAll : MethodName := ⟨RL, "costByAll", "(LStavehouse;I[J)I"⟩
abbrev cL_turns : ByteArray := method_28_code
def yL_turns : MethodName := ⟨RL, "turns", "(LStavehouse;I[J)I"⟩
abbrev cL_place : ByteArray := method_29_code
def yL_place : MethodName := ⟨RL, "place", "(LStavehouse;III[J)I"⟩
abbrev cL_deskOf : ByteArray := method_30_code
def yL_deskOf : MethodName := ⟨RL, "deskOf", "(LStavehouse;I[J)I"⟩
abbrev cL_has : ByteArray := method_31_code
def yL_has : MethodName := ⟨RL, "has", "(LStavehouse;II[J)I"⟩
abbrev cL_owed : ByteArray := method_32_code
def yL_owed : MethodName := ⟨RL, "owed", "(LStavehouse;I[J)I"⟩
abbrev cL_markOf : ByteArray := method_33_code
def yL_markOf : MethodName := ⟨RL, "markOf", "(LStavehouse;III[J)I"⟩
abbrev cL_oldMarks : ByteArray := method_34_code
def yL_oldMarks : MethodName := ⟨RL, "oldMarks", "(LStavehouse;I[J)I"⟩
abbrev cL_clashes : ByteArray := method_35_code
def yL_clashes : MethodName := ⟨RL, "clashes", "(LStavehouse;I[J)I"⟩
abbrev cL_law : ByteArray := code
def yL_law : MethodName := ⟨RL, "law", "([I)Z"⟩
def sx_str : List (String × Nat × String) := [("Stavehouse", 251, "a value is out of range"), ("Stavehouse", 58, "there are 12 bars"), ("Stavehouse", 247, "there is no such number"), ("Stavehouse", 75, "the instrument has 8 notes there"), ("Stavehouse", 83, "the notes would be longer than the bar"), ("Stavehouse", 108, "there are 16 copies"), ("Stavehouse", 117, "the copy is with a desk"), ("Stavehouse", 123, "the desk has a copy of this instrument"), ("Stavehouse", 254, "the copy is at home"), ("Stavehouse", 146, "the copy lacks the bar"), ("Stavehouse", 160, "the copy owes the bar"), ("Stavehouse", 169, "no copy is with a desk"), ("Stavehouse", 174, "a copy owes a bar"), ("Stavehouse", 230, "no spring begins there")]
abbrev vwCl : List vw_C := [(RX0, TX0, 9), (RX1, TX1, 4), (RX2, TX2, 4), (RX3, TX3, 11), (RX4, TX4, 7), (RX5, TX5, 5), (RX6, TX6, 7), (RX7, TX7, 34)]
end
section
/-! THE LAYER OF THIS PROOF: a world is a layout of cells from an address b on; the ints in it are a function sx_F (cell, place).
    A layout's kinds: .inl n an int array; .inr (.inl (t, n, r)) an array of references; .inr (.inr (ci, fs)) an object (none: an int, some r: a reference). -/
abbrev sx_K : Type := Nat ⊕ ((Nat × Nat × (Nat → Option Nat)) ⊕ (Nat × List (Option (Option Nat))))
abbrev sx_F : Type := Nat → Nat → Int32
abbrev sx_G : Type := ClassId × (Nat → ClassId)
def sx_fv (b : Nat) (g : Nat → Int32) : List (Option (Option Nat)) → Nat → List Value
  | [], _ => []
  | none :: r, j => .int (g j) :: sx_fv b g r (j + 1)
  | some q :: r, j => va_rf (q.map (fun k => b + k)) :: sx_fv b g r (j + 1)
def sx_e (G : sx_G) (b : Nat) (g : Nat → Int32) : sx_K → va_E
  | .inl n => .inl (G.1, n, .inl g)
  | .inr (.inl t) => .inl (G.2 t.1, t.2.1, .inr (.inr (.inr (.inr (fun i => (t.2.2 i).map (fun k => b + k))))))
  | .inr (.inr o) => .inr (o.1, sx_fv b g o.2 0)
def sx_w (G : sx_G) (b : Nat) (lay : Nat → sx_K) (n : Nat) (f : sx_F) : va_W := (List.range n).map fun k => (b + k, sx_e G b (f k) (lay k))
def sx_u (f : sx_F) (k j : Nat) (v : Int32) : sx_F := fun i => if i = k then upd (f k) j v else f i
theorem sx_u_s {f : sx_F} {k j : Nat} {v : Int32} : sx_u f k j v k = upd (f k) j v := if_pos rfl
theorem sx_u_n {f : sx_F} {k j i : Nat} {v : Int32} (h : i ≠ k) : sx_u f k j v i = f i := if_neg h
theorem sx_get {G : sx_G} {b : Nat} {lay : Nat → sx_K} {n : Nat} {f : sx_F} {k : Nat} (h : k < n) : (sx_w G b lay n f)[k]? = some (b + k, sx_e G b (f k) (lay k)) := by
  unfold sx_w
  rw [List.getElem?_map, List.getElem?_range h]
  rfl
theorem sx_len {G : sx_G} {b : Nat} {lay : Nat → sx_K} {n : Nat} {f : sx_F} : (sx_w G b lay n f).length = n := by
  unfold sx_w
  rw [List.length_map, List.length_range]
theorem sx_inv {G : sx_G} {b : Nat} {lay : Nat → sx_K} {n : Nat} {f : sx_F} {k : Nat} {q : Nat × va_E} (h : (sx_w G b lay n f)[k]? = some q) : k < n ∧ q = (b + k, sx_e G b (f k) (lay k)) := by
  have hk : k < n := by
    have h1 := (List.getElem?_eq_some_iff.mp h).1
    rw [sx_len] at h1
    exact h1
  rw [sx_get hk] at h
  exact ⟨hk, (Option.some.inj h).symm⟩
theorem sx_set {G : sx_G} {b : Nat} {lay : Nat → sx_K} {n : Nat} {f f' : sx_F} {k : Nat} {e : va_E} (h : k < n) (he : e = sx_e G b (f' k) (lay k)) (ho : ∀ j, j ≠ k → f' j = f j) : (sx_w G b lay n f).set k (b + k, e) = sx_w G b lay n f' := by
  subst he
  apply List.ext_getElem?
  intro i
  by_cases hi : i < n
  · by_cases hik : k = i
    · subst hik
      rw [sx_get hi, List.getElem?_set_self (by rw [sx_len]; exact hi)]
    · rw [List.getElem?_set_ne hik, sx_get hi, sx_get hi, ho i (fun e => hik e.symm)]
  · rw [List.getElem?_eq_none (by rw [List.length_set, sx_len]; omega), List.getElem?_eq_none (by rw [sx_len]; omega)]
theorem sx_fv_len (b : Nat) (g : Nat → Int32) : ∀ (fs : List (Option (Option Nat))) (i : Nat), (sx_fv b g fs i).length = fs.length
  | [], _ => rfl
  | none :: r, i => by rw [sx_fv, List.length_cons, List.length_cons, sx_fv_len b g r]
  | some q :: r, i => by rw [sx_fv, List.length_cons, List.length_cons, sx_fv_len b g r]
theorem sx_fv_i (b : Nat) (g : Nat → Int32) : ∀ (fs : List (Option (Option Nat))) (i j : Nat), fs[j]? = some none → (sx_fv b g fs i)[j]? = some (.int (g (i + j)))
  | [], i, j, h => by simp at h
  | none :: r, i, 0, _ => rfl
  | some q :: r, i, 0, h => by simp at h
  | none :: r, i, j + 1, h => by
    rw [sx_fv, List.getElem?_cons_succ, sx_fv_i b g r (i + 1) j (by simpa using h), show i + 1 + j = i + (j + 1) by omega]
  | some q :: r, i, j + 1, h => by
    rw [sx_fv, List.getElem?_cons_succ, sx_fv_i b g r (i + 1) j (by simpa using h), show i + 1 + j = i + (j + 1) by omega]
theorem sx_fv_q (b : Nat) (g : Nat → Int32) : ∀ (fs : List (Option (Option Nat))) (i j : Nat) (q : Option Nat), fs[j]? = some (some q) → (sx_fv b g fs i)[j]? = some (va_rf (q.map (fun k => b + k)))
  | [], i, j, q, h => by simp at h
  | none :: r, i, 0, q, h => by simp at h
  | some q0 :: r, i, 0, q, h => by
    have h1 : q0 = q := by simpa using h
    rw [h1]
    rfl
  | none :: r, i, j + 1, q, h => by rw [sx_fv, List.getElem?_cons_succ, sx_fv_q b g r (i + 1) j q (by simpa using h)]
  | some q0 :: r, i, j + 1, q, h => by rw [sx_fv, List.getElem?_cons_succ, sx_fv_q b g r (i + 1) j q (by simpa using h)]
theorem sx_fv_o (b : Nat) (g g' : Nat → Int32) : ∀ (fs : List (Option (Option Nat))) (i : Nat), (∀ j, i ≤ j → g' j = g j) → sx_fv b g' fs i = sx_fv b g fs i
  | [], _, _ => rfl
  | none :: r, i, h => by rw [sx_fv, sx_fv, h i (Nat.le_refl i), sx_fv_o b g g' r (i + 1) (fun j hj => h j (by omega))]
  | some q :: r, i, h => by rw [sx_fv, sx_fv, sx_fv_o b g g' r (i + 1) (fun j hj => h j (by omega))]
theorem sx_fv_set (b : Nat) (g : Nat → Int32) (v : Int32) : ∀ (fs : List (Option (Option Nat))) (i j : Nat), fs[j]? = some none → (sx_fv b g fs i).set j (.int v) = sx_fv b (upd g (i + j) v) fs i
  | [], i, j, h => by simp at h
  | none :: r, i, 0, _ => by
    rw [sx_fv, sx_fv, List.set_cons_zero, sx_fv_o b g (upd g (i + 0) v) r (i + 1) (fun j hj => if_neg (by omega))]
    simp [upd]
  | some q :: r, i, 0, h => by simp at h
  | none :: r, i, j + 1, h => by
    rw [sx_fv, sx_fv, List.set_cons_succ, sx_fv_set b g v r (i + 1) j (by simpa using h), show i + 1 + j = i + (j + 1) by omega]
    have e : upd g (i + (j + 1)) v i = g i := if_neg (by omega)
    rw [e]
  | some q :: r, i, j + 1, h => by
    rw [sx_fv, sx_fv, List.set_cons_succ, sx_fv_set b g v r (i + 1) j (by simpa using h), show i + 1 + j = i + (j + 1) by omega]
/-! the tables' words -/
def sx_kw : Cond → Bool
  | .fieldLinkNest .. => true
  | .methodLinkNest .. => true
  | .declares _ => true
  | .castable .. => true
  | _ => false
def sx_ws : List Cond := lw_tbl.filter goodWord
def sx_nw : List Cond := lw_tbl.filter sx_kw
theorem sx_wm {w : Cond} (i : Nat) (h : lw_tbl[i]? = some w) (hg : goodWord w = true) : w ∈ sx_ws := List.mem_filter.mpr ⟨List.mem_of_getElem? h, hg⟩
theorem sx_nm {w : Cond} (i : Nat) (h : lw_tbl[i]? = some w) (hg : sx_kw w = true) : w ∈ sx_nw := List.mem_filter.mpr ⟨List.mem_of_getElem? h, hg⟩
def sx_N (U : State) : Prop := ∀ w ∈ sx_nw, va_Nw w U
theorem sx_kw_warm {w : Cond} {s U : State} (hg : sx_kw w = true) (hW : s.WarmedH U.vm) (h : va_Nw w s) : va_Nw w U := by
  cases w with
  | fieldLinkNest a i b n d h1 => exact va_Nw.warmF hW h
  | methodLinkNest a i x h1 => exact va_Nw.warmM hW h
  | declares x => exact va_Nw.warmD hW h
  | castable a b => exact va_Nw.warmC hW h
  | _ => simp [sx_kw] at hg
theorem sx_N.warm {s U : State} (hW : s.WarmedH U.vm) (h : sx_N s) : sx_N U := fun w hw => sx_kw_warm (List.mem_filter.mp hw).2 hW (h w hw)
def sx_S (U : State) : Prop := ∀ q ∈ sx_str, ∃ a, vk_R q.1 q.2.1 q.2.2 a U
theorem sx_S.warm {s U : State} (hW : s.WarmedH U.vm) (h : sx_S s) : sx_S U := fun q hq => by
  obtain ⟨a, ha⟩ := h q hq
  exact ⟨a, vk_R.warm hW ha⟩
def sx_Z (A : Nat → Prop) (U : State) (H : Heap) : Prop := vx_Zq Bundle.tN "UNASSIGNED_STACK" Bundle.steD A U H ∧ vx_Zq Bundle.tN "SUPPRESSED_SENTINEL" Bundle.listD A U H
def sx_tys (G : sx_G) : List (ClassId × FieldType) := [(G.1, .int), (G.2 0, .object "Stavehouse$Copy"), (G.2 1, .object "Stavehouse$Desk"), (G.2 2, .array .int)]
def sx_V (D : va_G) (G : sx_G) (A : Nat → Prop) (U : State) (H : Heap) : Prop := va_K D vwCl (sx_tys G) U ∧ sx_N U ∧ sx_S U ∧ sx_Z A U H
theorem sx_V.warm {D : va_G} {G : sx_G} {A : Nat → Prop} {s U : State} {H : Heap} (hW : s.WarmedH U.vm) (h : sx_V D G A s H) : sx_V D G A U H :=
  ⟨va_K.moved hW.alike h.1, h.2.1.warm hW, h.2.2.1.warm hW, vx_Zq.moved hW.alike h.2.2.2.1, vx_Zq.moved hW.alike h.2.2.2.2⟩
theorem sx_V.kept {D : va_G} {G : sx_G} {A : Nat → Prop} {s : State} {H H1 : Heap} (h : sx_V D G A s H) (hq : ∀ a : Nat, a < H.size → ¬ A a → H1[a]? = H[a]?) : sx_V D G A s H1 :=
  ⟨h.1, h.2.1, h.2.2.1, h.2.2.2.1.kept hq, h.2.2.2.2.kept hq⟩
theorem sx_V.narrow {D : va_G} {G : sx_G} {A B : Nat → Prop} {s : State} {H : Heap} (h : sx_V D G A s H) (hAB : ∀ q, B q → A q) : sx_V D G B s H :=
  ⟨h.1, h.2.1, h.2.2.1, h.2.2.2.1.narrow hAB, h.2.2.2.2.narrow hAB⟩
/-- what a method may change: its world's cells, and those that it makes -/
def sx_A (b n sz : Nat) : Nat → Prop := fun q => (b ≤ q ∧ q < b + n) ∨ sz ≤ q
theorem sx_A.in {b n sz k : Nat} (h : k < n) : sx_A b n sz (b + k) := Or.inl ⟨Nat.le_add_right _ _, Nat.add_lt_add_left h _⟩
theorem sx_D {A : Nat → Prop} {G : sx_G} {b : Nat} {lay : Nat → sx_K} {n : Nat} {f : sx_F} (h : ∀ k, k < n → A (b + k)) : va_D A (sx_w G b lay n f) := by
  refine ⟨fun i j p q hi hj e => ?_, fun k q hk => ?_⟩
  · obtain ⟨h1, rfl⟩ := sx_inv hi
    obtain ⟨h2, rfl⟩ := sx_inv hj
    exact Nat.add_left_cancel e
  · obtain ⟨h1, rfl⟩ := sx_inv hk
    exact h k h1
/-- what holds of a method's frame while it runs -/
def sx_Cx (p : Program) (l : Launch) (s : State) (m : MethodId) (args : Array Value) (meth : Method) (c : Code) (D : va_G) (G : sx_G) (A : Nat → Prop) (cc : ByteArray) (nL : Nat) (own : String) : Prop :=
  p.tables.exec = Jvm.exec ∧ c.code = cc ∧ c.maxLocals = nL ∧ s.vm.findClass own = some m.cls ∧ (∀ w ∈ sx_ws, w.before args s = true) ∧ (∀ q, s.heap.size ≤ q → A q) ∧ meth.locks = false ∧ l.stackTraces = false ∧ sx_V D G A s s.heap
/-- the machine at pc, with these locals and this stack, in the world of u: it comes to Q -/
def sx_J {σ : Type} (wd : σ → va_W) (p : Program) (l : Launch) (e : Env) (R : Room) (s : State) (m : MethodId) (args : Array Value) (below : List Frame) (meth : Method) (c : Code) (D : va_G) (A : Nat → Prop) (nL cells slots : Nat) (Q : State → Prop) (u : σ) (pc : Nat) (lv : List (Nat × Value)) (st : List Value) : Prop :=
  ∀ (H : Heap) (locs : List Loc) (ls : Array Slot), va_P D vwCl (wd u) H → va_S A s.heap H locs → lv_has ls nL lv → W p l e R s m args below meth c H locs cells slots Q (F0 m pc ls st)
section SX
variable {σ : Type} {wd : σ → va_W} {p : Program} {l : Launch} {e : Env} {R : Room} {s : State} {m : MethodId} {args : Array Value} {below : List Frame} {meth : Method} {c : Code} {D : va_G} {G : sx_G} {A : Nat → Prop} {cc : ByteArray} {nL cells slots : Nat} {own : String} {Q : State → Prop} {u : σ} {pc : Nat} {lv : List (Nat × Value)} {st : List Value}
theorem sx_widen {k n : Nat} (h1 : cells ≤ k) (h2 : slots ≤ n) (kk : sx_J wd p l e R s m args below meth c D A nL k n Q u pc lv st) : sx_J wd p l e R s m args below meth c D A nL cells slots Q (u) (pc) (lv) (st) := fun H locs ls hP hS hl => W.widen h1 h2 (kk H locs ls hP hS hl)
theorem sx_sub {lv' : List (Nat × Value)} (ks : List Nat) (h : lv_pick lv ks = lv') (k : sx_J wd p l e R s m args below meth c D A nL cells slots Q (u) (pc) (lv') (st)) : sx_J wd p l e R s m args below meth c D A nL cells slots Q (u) (pc) (lv) (st) := fun H locs ls hP hS hl => k H locs ls hP hS (lv_sub hl ks h)
theorem sx_topi {x : Int32} (k : ∀ y : Int32, y = x → sx_J wd p l e R s m args below meth c D A nL cells slots Q (u) (pc) (lv) (.int y :: st)) : sx_J wd p l e R s m args below meth c D A nL cells slots Q (u) (pc) (lv) (.int x :: st) := k x rfl
theorem sx_iconst (C : sx_Cx p l s m args meth c D G A cc nL own) {n : Int} (d : decode cc pc = .ok (.iconst n, 1)) (v : Int32) (hv : Int32.ofInt n = v) (q : Nat) (hq : pc + 1 = q) (k : sx_J wd p l e R s m args below meth c D A nL cells slots Q (u) (q) (lv) (.int v :: st)) : sx_J wd p l e R s m args below meth c D A nL cells slots Q (u) (pc) (lv) (st) := by
  subst hq
  exact fun H locs ls hP hS hl => lv_iconst C.1 C.2.1 d hv (k H locs ls hP hS hl)
theorem sx_bipush (C : sx_Cx p l s m args meth c D G A cc nL own) {n : Int} (d : decode cc pc = .ok (.bipush n, 2)) (v : Int32) (hv : (Int8.ofInt n).toInt32 = v) (q : Nat) (hq : pc + 2 = q) (k : sx_J wd p l e R s m args below meth c D A nL cells slots Q (u) (q) (lv) (.int v :: st)) : sx_J wd p l e R s m args below meth c D A nL cells slots Q (u) (pc) (lv) (st) := by
  subst hq
  exact fun H locs ls hP hS hl => lv_bipush C.1 C.2.1 d hv (k H locs ls hP hS hl)
theorem sx_sipush (C : sx_Cx p l s m args meth c D G A cc nL own) {n : Int} (d : decode cc pc = .ok (.sipush n, 3)) (v : Int32) (hv : (Int16.ofInt n).toInt32 = v) (q : Nat) (hq : pc + 3 = q) (k : sx_J wd p l e R s m args below meth c D A nL cells slots Q (u) (q) (lv) (.int v :: st)) : sx_J wd p l e R s m args below meth c D A nL cells slots Q (u) (pc) (lv) (st) := by
  subst hq
  exact fun H locs ls hP hS hl => lv_sipush C.1 C.2.1 d hv (k H locs ls hP hS hl)
theorem sx_iload_n (C : sx_Cx p l s m args meth c D G A cc nL own) {kk : Fin 4} {x : Int32} (d : decode cc pc = .ok (.iload_n kk, 1)) (n i : Nat) (hn : (kk : Nat) = n) (hi : lv[i]? = some (n, .int x)) (q : Nat) (hq : pc + 1 = q) (k : sx_J wd p l e R s m args below meth c D A nL cells slots Q (u) (q) (lv) (.int x :: st)) : sx_J wd p l e R s m args below meth c D A nL cells slots Q (u) (pc) (lv) (st) := by
  subst hq
  exact fun H locs ls hP hS hl => lv_iload_n C.1 C.2.1 d hn (lv_at hl i hi) (k H locs ls hP hS hl)
theorem sx_iload (C : sx_Cx p l s m args meth c D G A cc nL own) {n : Nat} {x : Int32} (d : decode cc pc = .ok (.iload n, 2)) (i : Nat) (hi : lv[i]? = some (n, .int x)) (q : Nat) (hq : pc + 2 = q) (k : sx_J wd p l e R s m args below meth c D A nL cells slots Q (u) (q) (lv) (.int x :: st)) : sx_J wd p l e R s m args below meth c D A nL cells slots Q (u) (pc) (lv) (st) := by
  subst hq
  exact fun H locs ls hP hS hl => lv_iload C.1 C.2.1 d (lv_at hl i hi) (k H locs ls hP hS hl)
theorem sx_aload_n (C : sx_Cx p l s m args meth c D G A cc nL own) {kk : Fin 4} {x : Nat} (d : decode cc pc = .ok (.aload_n kk, 1)) (n i : Nat) (hn : (kk : Nat) = n) (hi : lv[i]? = some (n, .ref x)) (q : Nat) (hq : pc + 1 = q) (k : sx_J wd p l e R s m args below meth c D A nL cells slots Q (u) (q) (lv) (.ref x :: st)) : sx_J wd p l e R s m args below meth c D A nL cells slots Q (u) (pc) (lv) (st) := by
  subst hq
  exact fun H locs ls hP hS hl => lv_aload_n C.1 C.2.1 d hn (lv_at hl i hi) (k H locs ls hP hS hl)
theorem sx_aload (C : sx_Cx p l s m args meth c D G A cc nL own) {n : Nat} {x : Nat} (d : decode cc pc = .ok (.aload n, 2)) (i : Nat) (hi : lv[i]? = some (n, .ref x)) (q : Nat) (hq : pc + 2 = q) (k : sx_J wd p l e R s m args below meth c D A nL cells slots Q (u) (q) (lv) (.ref x :: st)) : sx_J wd p l e R s m args below meth c D A nL cells slots Q (u) (pc) (lv) (st) := by
  subst hq
  exact fun H locs ls hP hS hl => lv_aload C.1 C.2.1 d (lv_at hl i hi) (k H locs ls hP hS hl)
theorem sx_iadd (C : sx_Cx p l s m args meth c D G A cc nL own) {x y : Int32} (d : decode cc pc = .ok (.iadd, 1))  (q : Nat) (hq : pc + 1 = q) (k : sx_J wd p l e R s m args below meth c D A nL cells slots Q (u) (q) (lv) (.int (x + y) :: st)) : sx_J wd p l e R s m args below meth c D A nL cells slots Q (u) (pc) (lv) (.int y :: .int x :: st) := by
  subst hq
  exact fun H locs ls hP hS hl => lv_iadd C.1 C.2.1 d (k H locs ls hP hS hl)
theorem sx_isub (C : sx_Cx p l s m args meth c D G A cc nL own) {x y : Int32} (d : decode cc pc = .ok (.isub, 1))  (q : Nat) (hq : pc + 1 = q) (k : sx_J wd p l e R s m args below meth c D A nL cells slots Q (u) (q) (lv) (.int (x - y) :: st)) : sx_J wd p l e R s m args below meth c D A nL cells slots Q (u) (pc) (lv) (.int y :: .int x :: st) := by
  subst hq
  exact fun H locs ls hP hS hl => lv_isub C.1 C.2.1 d (k H locs ls hP hS hl)
theorem sx_imul (C : sx_Cx p l s m args meth c D G A cc nL own) {x y : Int32} (d : decode cc pc = .ok (.imul, 1))  (q : Nat) (hq : pc + 1 = q) (k : sx_J wd p l e R s m args below meth c D A nL cells slots Q (u) (q) (lv) (.int (x * y) :: st)) : sx_J wd p l e R s m args below meth c D A nL cells slots Q (u) (pc) (lv) (.int y :: .int x :: st) := by
  subst hq
  exact fun H locs ls hP hS hl => lv_imul C.1 C.2.1 d (k H locs ls hP hS hl)
theorem sx_iand (C : sx_Cx p l s m args meth c D G A cc nL own) {x y : Int32} (d : decode cc pc = .ok (.iand, 1))  (q : Nat) (hq : pc + 1 = q) (k : sx_J wd p l e R s m args below meth c D A nL cells slots Q (u) (q) (lv) (.int (x &&& y) :: st)) : sx_J wd p l e R s m args below meth c D A nL cells slots Q (u) (pc) (lv) (.int y :: .int x :: st) := by
  subst hq
  exact fun H locs ls hP hS hl => lv_iand C.1 C.2.1 d (k H locs ls hP hS hl)
theorem sx_ior (C : sx_Cx p l s m args meth c D G A cc nL own) {x y : Int32} (d : decode cc pc = .ok (.ior, 1))  (q : Nat) (hq : pc + 1 = q) (k : sx_J wd p l e R s m args below meth c D A nL cells slots Q (u) (q) (lv) (.int (x ||| y) :: st)) : sx_J wd p l e R s m args below meth c D A nL cells slots Q (u) (pc) (lv) (.int y :: .int x :: st) := by
  subst hq
  exact fun H locs ls hP hS hl => lv_ior C.1 C.2.1 d (k H locs ls hP hS hl)
theorem sx_ixor (C : sx_Cx p l s m args meth c D G A cc nL own) {x y : Int32} (d : decode cc pc = .ok (.ixor, 1))  (q : Nat) (hq : pc + 1 = q) (k : sx_J wd p l e R s m args below meth c D A nL cells slots Q (u) (q) (lv) (.int (x ^^^ y) :: st)) : sx_J wd p l e R s m args below meth c D A nL cells slots Q (u) (pc) (lv) (.int y :: .int x :: st) := by
  subst hq
  exact fun H locs ls hP hS hl => lv_ixor C.1 C.2.1 d (k H locs ls hP hS hl)
theorem sx_ishl (C : sx_Cx p l s m args meth c D G A cc nL own) {x y : Int32} (d : decode cc pc = .ok (.ishl, 1))  (q : Nat) (hq : pc + 1 = q) (k : sx_J wd p l e R s m args below meth c D A nL cells slots Q (u) (q) (lv) (.int (x <<< (y &&& 31)) :: st)) : sx_J wd p l e R s m args below meth c D A nL cells slots Q (u) (pc) (lv) (.int y :: .int x :: st) := by
  subst hq
  exact fun H locs ls hP hS hl => lv_ishl C.1 C.2.1 d (k H locs ls hP hS hl)
theorem sx_ishr (C : sx_Cx p l s m args meth c D G A cc nL own) {x y : Int32} (d : decode cc pc = .ok (.ishr, 1))  (q : Nat) (hq : pc + 1 = q) (k : sx_J wd p l e R s m args below meth c D A nL cells slots Q (u) (q) (lv) (.int (x >>> (y &&& 31)) :: st)) : sx_J wd p l e R s m args below meth c D A nL cells slots Q (u) (pc) (lv) (.int y :: .int x :: st) := by
  subst hq
  exact fun H locs ls hP hS hl => lv_ishr C.1 C.2.1 d (k H locs ls hP hS hl)
theorem sx_idiv (C : sx_Cx p l s m args meth c D G A cc nL own) {x y : Int32} (d : decode cc pc = .ok (.idiv, 1)) (hne : ¬ y = 0) (q : Nat) (hq : pc + 1 = q) (k : sx_J wd p l e R s m args below meth c D A nL cells slots Q (u) (q) (lv) (.int (x / y) :: st)) : sx_J wd p l e R s m args below meth c D A nL cells slots Q (u) (pc) (lv) (.int y :: .int x :: st) := by
  subst hq
  exact fun H locs ls hP hS hl => lv_idiv C.1 C.2.1 d hne (k H locs ls hP hS hl)
theorem sx_irem (C : sx_Cx p l s m args meth c D G A cc nL own) {x y : Int32} (d : decode cc pc = .ok (.irem, 1)) (hne : ¬ y = 0) (q : Nat) (hq : pc + 1 = q) (k : sx_J wd p l e R s m args below meth c D A nL cells slots Q (u) (q) (lv) (.int (x - x / y * y) :: st)) : sx_J wd p l e R s m args below meth c D A nL cells slots Q (u) (pc) (lv) (.int y :: .int x :: st) := by
  subst hq
  exact fun H locs ls hP hS hl => lv_irem C.1 C.2.1 d hne (k H locs ls hP hS hl)
theorem sx_ineg (C : sx_Cx p l s m args meth c D G A cc nL own) {x : Int32} (d : decode cc pc = .ok (.ineg, 1))  (q : Nat) (hq : pc + 1 = q) (k : sx_J wd p l e R s m args below meth c D A nL cells slots Q (u) (q) (lv) (.int (-x) :: st)) : sx_J wd p l e R s m args below meth c D A nL cells slots Q (u) (pc) (lv) (.int x :: st) := by
  subst hq
  exact fun H locs ls hP hS hl => lv_ineg C.1 C.2.1 d (k H locs ls hP hS hl)
theorem sx_dup (C : sx_Cx p l s m args meth c D G A cc nL own) {va : Value} (d : decode cc pc = .ok (.dup, 1)) (hva : va.category = 1) (q : Nat) (hq : pc + 1 = q) (k : sx_J wd p l e R s m args below meth c D A nL cells slots Q (u) (q) (lv) (va :: va :: st)) : sx_J wd p l e R s m args below meth c D A nL cells slots Q (u) (pc) (lv) (va :: st) := by
  subst hq
  exact fun H locs ls hP hS hl => lv_dup C.1 C.2.1 d hva (k H locs ls hP hS hl)
theorem sx_pop (C : sx_Cx p l s m args meth c D G A cc nL own) {va : Value} (d : decode cc pc = .ok (.pop, 1)) (hva : va.category = 1) (q : Nat) (hq : pc + 1 = q) (k : sx_J wd p l e R s m args below meth c D A nL cells slots Q (u) (q) (lv) (st)) : sx_J wd p l e R s m args below meth c D A nL cells slots Q (u) (pc) (lv) (va :: st) := by
  subst hq
  exact fun H locs ls hP hS hl => lv_pop C.1 C.2.1 d hva (k H locs ls hP hS hl)
theorem sx_dup2 (C : sx_Cx p l s m args meth c D G A cc nL own) {va vb : Value} (d : decode cc pc = .ok (.dup2, 1)) (hva : va.category = 1) (hvb : vb.category = 1) (q : Nat) (hq : pc + 1 = q) (k : sx_J wd p l e R s m args below meth c D A nL cells slots Q (u) (q) (lv) (va :: vb :: va :: vb :: st)) : sx_J wd p l e R s m args below meth c D A nL cells slots Q (u) (pc) (lv) (va :: vb :: st) := by
  subst hq
  exact fun H locs ls hP hS hl => lv_dup2_11 C.1 C.2.1 d hva hvb (k H locs ls hP hS hl)
theorem sx_dup_x1 (C : sx_Cx p l s m args meth c D G A cc nL own) {va vb : Value} (d : decode cc pc = .ok (.dup_x1, 1)) (hva : va.category = 1) (hvb : vb.category = 1) (q : Nat) (hq : pc + 1 = q) (k : sx_J wd p l e R s m args below meth c D A nL cells slots Q (u) (q) (lv) (va :: vb :: va :: st)) : sx_J wd p l e R s m args below meth c D A nL cells slots Q (u) (pc) (lv) (va :: vb :: st) := by
  subst hq
  exact fun H locs ls hP hS hl => lv_dup_x1 C.1 C.2.1 d hva hvb (k H locs ls hP hS hl)
theorem sx_istore_n (C : sx_Cx p l s m args meth c D G A cc nL own) {kk : Fin 4} {x : Int32} (d : decode cc pc = .ok (.istore_n kk, 1)) (n : Nat) (hn : (kk : Nat) = n) (lv' : List (Nat × Value)) (hlt : n < nL) (hl' : (n, Value.int x) :: lv.filter (fun q => !(q.1 == n) && !(q.1 + 1 == n && q.2.category == 2)) = lv') (q : Nat) (hq : pc + 1 = q) (k : sx_J wd p l e R s m args below meth c D A nL cells slots Q (u) (q) (lv') (st)) : sx_J wd p l e R s m args below meth c D A nL cells slots Q (u) (pc) (lv) (.int x :: st) := by
  subst hq
  exact fun H locs ls hP hS hl => lv_istore_n C.1 C.2.1 d hn hl hlt hl' (fun ls' h => k H locs ls' hP hS h)
theorem sx_istore (C : sx_Cx p l s m args meth c D G A cc nL own) {n : Nat} {x : Int32} (d : decode cc pc = .ok (.istore n, 2)) (lv' : List (Nat × Value)) (hlt : n < nL) (hl' : (n, Value.int x) :: lv.filter (fun q => !(q.1 == n) && !(q.1 + 1 == n && q.2.category == 2)) = lv') (q : Nat) (hq : pc + 2 = q) (k : sx_J wd p l e R s m args below meth c D A nL cells slots Q (u) (q) (lv') (st)) : sx_J wd p l e R s m args below meth c D A nL cells slots Q (u) (pc) (lv) (.int x :: st) := by
  subst hq
  exact fun H locs ls hP hS hl => lv_istore C.1 C.2.1 d hl hlt hl' (fun ls' h => k H locs ls' hP hS h)
theorem sx_astore_n (C : sx_Cx p l s m args meth c D G A cc nL own) {kk : Fin 4} {x : Nat} (d : decode cc pc = .ok (.astore_n kk, 1)) (n : Nat) (hn : (kk : Nat) = n) (lv' : List (Nat × Value)) (hlt : n < nL) (hl' : (n, Value.ref x) :: lv.filter (fun q => !(q.1 == n) && !(q.1 + 1 == n && q.2.category == 2)) = lv') (q : Nat) (hq : pc + 1 = q) (k : sx_J wd p l e R s m args below meth c D A nL cells slots Q (u) (q) (lv') (st)) : sx_J wd p l e R s m args below meth c D A nL cells slots Q (u) (pc) (lv) (.ref x :: st) := by
  subst hq
  exact fun H locs ls hP hS hl => lv_astore_n C.1 C.2.1 d hn hl hlt hl' (fun ls' h => k H locs ls' hP hS h)
theorem sx_astore (C : sx_Cx p l s m args meth c D G A cc nL own) {n : Nat} {x : Nat} (d : decode cc pc = .ok (.astore n, 2)) (lv' : List (Nat × Value)) (hlt : n < nL) (hl' : (n, Value.ref x) :: lv.filter (fun q => !(q.1 == n) && !(q.1 + 1 == n && q.2.category == 2)) = lv') (q : Nat) (hq : pc + 2 = q) (k : sx_J wd p l e R s m args below meth c D A nL cells slots Q (u) (q) (lv') (st)) : sx_J wd p l e R s m args below meth c D A nL cells slots Q (u) (pc) (lv) (.ref x :: st) := by
  subst hq
  exact fun H locs ls hP hS hl => lv_astore C.1 C.2.1 d hl hlt hl' (fun ls' h => k H locs ls' hP hS h)
theorem sx_iinc (C : sx_Cx p l s m args meth c D G A cc nL own) {n : Nat} {z : Int} {x : Int32} (d : decode cc pc = .ok (.iinc n z, 3)) (i : Nat) (hi : lv[i]? = some (n, .int x)) (v : Int32) (hv : x + Int32.ofInt z = v) (lv' : List (Nat × Value)) (hlt : n < nL) (hl' : (n, Value.int v) :: lv.filter (fun q => !(q.1 == n) && !(q.1 + 1 == n && q.2.category == 2)) = lv') (q : Nat) (hq : pc + 3 = q) (k : sx_J wd p l e R s m args below meth c D A nL cells slots Q (u) (q) (lv') (st)) : sx_J wd p l e R s m args below meth c D A nL cells slots Q (u) (pc) (lv) (st) := by
  subst hq
  exact fun H locs ls hP hS hl => lv_iinc C.1 C.2.1 d hl hi hv hlt hl' (fun ls' h => k H locs ls' hP hS h)
theorem sx_icmp_eq (C : sx_Cx p l s m args meth c D G A cc nL own) {x y : Int32} {off : Int} (d : decode cc pc = .ok (.if_icmp .eq off, 3)) (tgt q : Nat) (ht : (pc : Int) + off = (tgt : Int)) (hq : pc + 3 = q) (kt : x = y → sx_J wd p l e R s m args below meth c D A nL cells slots Q (u) (tgt) (lv) (st)) (kf : ¬ x = y → sx_J wd p l e R s m args below meth c D A nL cells slots Q (u) (q) (lv) (st)) : sx_J wd p l e R s m args below meth c D A nL cells slots Q (u) (pc) (lv) (.int y :: .int x :: st) := by
  subst hq
  exact fun H locs ls hP hS hl => lv_icmp_eq C.1 C.2.1 d ht (fun h => kt h H locs ls hP hS hl) (fun h => kf h H locs ls hP hS hl)
theorem sx_if_eq (C : sx_Cx p l s m args meth c D G A cc nL own) {x : Int32} {off : Int} (d : decode cc pc = .ok (.ifCond .eq off, 3)) (tgt q : Nat) (ht : (pc : Int) + off = (tgt : Int)) (hq : pc + 3 = q) (kt : x = 0 → sx_J wd p l e R s m args below meth c D A nL cells slots Q (u) (tgt) (lv) (st)) (kf : ¬ x = 0 → sx_J wd p l e R s m args below meth c D A nL cells slots Q (u) (q) (lv) (st)) : sx_J wd p l e R s m args below meth c D A nL cells slots Q (u) (pc) (lv) (.int x :: st) := by
  subst hq
  exact fun H locs ls hP hS hl => lv_if_eq C.1 C.2.1 d ht (fun h => kt h H locs ls hP hS hl) (fun h => kf h H locs ls hP hS hl)
theorem sx_icmp_ne (C : sx_Cx p l s m args meth c D G A cc nL own) {x y : Int32} {off : Int} (d : decode cc pc = .ok (.if_icmp .ne off, 3)) (tgt q : Nat) (ht : (pc : Int) + off = (tgt : Int)) (hq : pc + 3 = q) (kt : ¬ x = y → sx_J wd p l e R s m args below meth c D A nL cells slots Q (u) (tgt) (lv) (st)) (kf : x = y → sx_J wd p l e R s m args below meth c D A nL cells slots Q (u) (q) (lv) (st)) : sx_J wd p l e R s m args below meth c D A nL cells slots Q (u) (pc) (lv) (.int y :: .int x :: st) := by
  subst hq
  exact fun H locs ls hP hS hl => lv_icmp_ne C.1 C.2.1 d ht (fun h => kt h H locs ls hP hS hl) (fun h => kf h H locs ls hP hS hl)
theorem sx_if_ne (C : sx_Cx p l s m args meth c D G A cc nL own) {x : Int32} {off : Int} (d : decode cc pc = .ok (.ifCond .ne off, 3)) (tgt q : Nat) (ht : (pc : Int) + off = (tgt : Int)) (hq : pc + 3 = q) (kt : ¬ x = 0 → sx_J wd p l e R s m args below meth c D A nL cells slots Q (u) (tgt) (lv) (st)) (kf : x = 0 → sx_J wd p l e R s m args below meth c D A nL cells slots Q (u) (q) (lv) (st)) : sx_J wd p l e R s m args below meth c D A nL cells slots Q (u) (pc) (lv) (.int x :: st) := by
  subst hq
  exact fun H locs ls hP hS hl => lv_if_ne C.1 C.2.1 d ht (fun h => kt h H locs ls hP hS hl) (fun h => kf h H locs ls hP hS hl)
theorem sx_icmp_lt (C : sx_Cx p l s m args meth c D G A cc nL own) {x y : Int32} {off : Int} (d : decode cc pc = .ok (.if_icmp .lt off, 3)) (tgt q : Nat) (ht : (pc : Int) + off = (tgt : Int)) (hq : pc + 3 = q) (kt : x < y → sx_J wd p l e R s m args below meth c D A nL cells slots Q (u) (tgt) (lv) (st)) (kf : ¬ x < y → sx_J wd p l e R s m args below meth c D A nL cells slots Q (u) (q) (lv) (st)) : sx_J wd p l e R s m args below meth c D A nL cells slots Q (u) (pc) (lv) (.int y :: .int x :: st) := by
  subst hq
  exact fun H locs ls hP hS hl => lv_icmp_lt C.1 C.2.1 d ht (fun h => kt h H locs ls hP hS hl) (fun h => kf h H locs ls hP hS hl)
theorem sx_if_lt (C : sx_Cx p l s m args meth c D G A cc nL own) {x : Int32} {off : Int} (d : decode cc pc = .ok (.ifCond .lt off, 3)) (tgt q : Nat) (ht : (pc : Int) + off = (tgt : Int)) (hq : pc + 3 = q) (kt : x < 0 → sx_J wd p l e R s m args below meth c D A nL cells slots Q (u) (tgt) (lv) (st)) (kf : ¬ x < 0 → sx_J wd p l e R s m args below meth c D A nL cells slots Q (u) (q) (lv) (st)) : sx_J wd p l e R s m args below meth c D A nL cells slots Q (u) (pc) (lv) (.int x :: st) := by
  subst hq
  exact fun H locs ls hP hS hl => lv_if_lt C.1 C.2.1 d ht (fun h => kt h H locs ls hP hS hl) (fun h => kf h H locs ls hP hS hl)
theorem sx_icmp_ge (C : sx_Cx p l s m args meth c D G A cc nL own) {x y : Int32} {off : Int} (d : decode cc pc = .ok (.if_icmp .ge off, 3)) (tgt q : Nat) (ht : (pc : Int) + off = (tgt : Int)) (hq : pc + 3 = q) (kt : y ≤ x → sx_J wd p l e R s m args below meth c D A nL cells slots Q (u) (tgt) (lv) (st)) (kf : ¬ y ≤ x → sx_J wd p l e R s m args below meth c D A nL cells slots Q (u) (q) (lv) (st)) : sx_J wd p l e R s m args below meth c D A nL cells slots Q (u) (pc) (lv) (.int y :: .int x :: st) := by
  subst hq
  exact fun H locs ls hP hS hl => lv_icmp_ge C.1 C.2.1 d ht (fun h => kt h H locs ls hP hS hl) (fun h => kf h H locs ls hP hS hl)
theorem sx_if_ge (C : sx_Cx p l s m args meth c D G A cc nL own) {x : Int32} {off : Int} (d : decode cc pc = .ok (.ifCond .ge off, 3)) (tgt q : Nat) (ht : (pc : Int) + off = (tgt : Int)) (hq : pc + 3 = q) (kt : 0 ≤ x → sx_J wd p l e R s m args below meth c D A nL cells slots Q (u) (tgt) (lv) (st)) (kf : ¬ 0 ≤ x → sx_J wd p l e R s m args below meth c D A nL cells slots Q (u) (q) (lv) (st)) : sx_J wd p l e R s m args below meth c D A nL cells slots Q (u) (pc) (lv) (.int x :: st) := by
  subst hq
  exact fun H locs ls hP hS hl => lv_if_ge C.1 C.2.1 d ht (fun h => kt h H locs ls hP hS hl) (fun h => kf h H locs ls hP hS hl)
theorem sx_icmp_gt (C : sx_Cx p l s m args meth c D G A cc nL own) {x y : Int32} {off : Int} (d : decode cc pc = .ok (.if_icmp .gt off, 3)) (tgt q : Nat) (ht : (pc : Int) + off = (tgt : Int)) (hq : pc + 3 = q) (kt : y < x → sx_J wd p l e R s m args below meth c D A nL cells slots Q (u) (tgt) (lv) (st)) (kf : ¬ y < x → sx_J wd p l e R s m args below meth c D A nL cells slots Q (u) (q) (lv) (st)) : sx_J wd p l e R s m args below meth c D A nL cells slots Q (u) (pc) (lv) (.int y :: .int x :: st) := by
  subst hq
  exact fun H locs ls hP hS hl => lv_icmp_gt C.1 C.2.1 d ht (fun h => kt h H locs ls hP hS hl) (fun h => kf h H locs ls hP hS hl)
theorem sx_if_gt (C : sx_Cx p l s m args meth c D G A cc nL own) {x : Int32} {off : Int} (d : decode cc pc = .ok (.ifCond .gt off, 3)) (tgt q : Nat) (ht : (pc : Int) + off = (tgt : Int)) (hq : pc + 3 = q) (kt : 0 < x → sx_J wd p l e R s m args below meth c D A nL cells slots Q (u) (tgt) (lv) (st)) (kf : ¬ 0 < x → sx_J wd p l e R s m args below meth c D A nL cells slots Q (u) (q) (lv) (st)) : sx_J wd p l e R s m args below meth c D A nL cells slots Q (u) (pc) (lv) (.int x :: st) := by
  subst hq
  exact fun H locs ls hP hS hl => lv_if_gt C.1 C.2.1 d ht (fun h => kt h H locs ls hP hS hl) (fun h => kf h H locs ls hP hS hl)
theorem sx_icmp_le (C : sx_Cx p l s m args meth c D G A cc nL own) {x y : Int32} {off : Int} (d : decode cc pc = .ok (.if_icmp .le off, 3)) (tgt q : Nat) (ht : (pc : Int) + off = (tgt : Int)) (hq : pc + 3 = q) (kt : x ≤ y → sx_J wd p l e R s m args below meth c D A nL cells slots Q (u) (tgt) (lv) (st)) (kf : ¬ x ≤ y → sx_J wd p l e R s m args below meth c D A nL cells slots Q (u) (q) (lv) (st)) : sx_J wd p l e R s m args below meth c D A nL cells slots Q (u) (pc) (lv) (.int y :: .int x :: st) := by
  subst hq
  exact fun H locs ls hP hS hl => lv_icmp_le C.1 C.2.1 d ht (fun h => kt h H locs ls hP hS hl) (fun h => kf h H locs ls hP hS hl)
theorem sx_if_le (C : sx_Cx p l s m args meth c D G A cc nL own) {x : Int32} {off : Int} (d : decode cc pc = .ok (.ifCond .le off, 3)) (tgt q : Nat) (ht : (pc : Int) + off = (tgt : Int)) (hq : pc + 3 = q) (kt : x ≤ 0 → sx_J wd p l e R s m args below meth c D A nL cells slots Q (u) (tgt) (lv) (st)) (kf : ¬ x ≤ 0 → sx_J wd p l e R s m args below meth c D A nL cells slots Q (u) (q) (lv) (st)) : sx_J wd p l e R s m args below meth c D A nL cells slots Q (u) (pc) (lv) (.int x :: st) := by
  subst hq
  exact fun H locs ls hP hS hl => lv_if_le C.1 C.2.1 d ht (fun h => kt h H locs ls hP hS hl) (fun h => kf h H locs ls hP hS hl)
theorem sx_goto (C : sx_Cx p l s m args meth c D G A cc nL own) {off : Int} (d : decode cc pc = .ok (.goto off, 3)) (tgt : Nat) (ht : (pc : Int) + off = (tgt : Int)) (k : sx_J wd p l e R s m args below meth c D A nL cells slots Q (u) (tgt) (lv) (st)) : sx_J wd p l e R s m args below meth c D A nL cells slots Q (u) (pc) (lv) (st) := fun H locs ls hP hS hl => lv_goto C.1 C.2.1 d ht (k H locs ls hP hS hl)
theorem sx_mmax (C : sx_Cx p l s m args meth c D G A cc nL own) {index : Nat} {x y : Int32} (d : decode cc pc = .ok (.invokestatic index, 3)) (hlink : Cond.methodLink own index Lib.Math.max.name ∈ sx_ws) (hstat : Cond.static Lib.Math.max.name ∈ sx_ws) (hini : Cond.initialized "java/lang/Math" ∈ sx_ws) (hcode : Cond.code Lib.Math.max.name Lib.Math.max.code 2 (some .int) ∈ sx_ws) (hR : 1 ≤ R.frames ∧ (st.map fun v => v.category).sum + 13 ≤ R.locals ∧ cells ≤ R.cells ∧ slots ≤ R.slots) (q : Nat) (hq : pc + 3 = q) (k : sx_J wd p l e R s m args below meth c D A nL cells slots Q (u) (q) (lv) (.int (if x < y then y else x) :: st)) : sx_J wd p l e R s m args below meth c D A nL cells slots Q (u) (pc) (lv) (.int y :: .int x :: st) := by
  subst hq
  exact fun H locs ls hP hS hl => va_mmax C.1 C.2.1 (C.2.2.1.trans hl.1.symm) C.2.2.2.1 (C.2.2.2.2.1 _ hlink) (C.2.2.2.2.1 _ hstat) (C.2.2.2.2.1 _ hini) (C.2.2.2.2.1 _ hcode) hR.1 hR.2.1 hR.2.2.1 hR.2.2.2 d (k H locs ls hP hS hl)
theorem sx_mmin (C : sx_Cx p l s m args meth c D G A cc nL own) {index : Nat} {x y : Int32} (d : decode cc pc = .ok (.invokestatic index, 3)) (hlink : Cond.methodLink own index Lib.Math.min.name ∈ sx_ws) (hstat : Cond.static Lib.Math.min.name ∈ sx_ws) (hini : Cond.initialized "java/lang/Math" ∈ sx_ws) (hcode : Cond.code Lib.Math.min.name Lib.Math.min.code 2 (some .int) ∈ sx_ws) (hR : 1 ≤ R.frames ∧ (st.map fun v => v.category).sum + 13 ≤ R.locals ∧ cells ≤ R.cells ∧ slots ≤ R.slots) (q : Nat) (hq : pc + 3 = q) (k : sx_J wd p l e R s m args below meth c D A nL cells slots Q (u) (q) (lv) (.int (if y < x then y else x) :: st)) : sx_J wd p l e R s m args below meth c D A nL cells slots Q (u) (pc) (lv) (.int y :: .int x :: st) := by
  subst hq
  exact fun H locs ls hP hS hl => va_mmin C.1 C.2.1 (C.2.2.1.trans hl.1.symm) C.2.2.2.1 (C.2.2.2.2.1 _ hlink) (C.2.2.2.2.1 _ hstat) (C.2.2.2.2.1 _ hini) (C.2.2.2.2.1 _ hcode) hR.1 hR.2.1 hR.2.2.1 hR.2.2.2 d (k H locs ls hP hS hl)
end SX

/-! fields and arrays of a world -/
section SY
variable {p : Program} {l : Launch} {e : Env} {R : Room} {s : State} {m : MethodId} {args : Array Value} {below : List Frame} {meth : Method} {c : Code} {D : va_G} {G : sx_G} {A : Nat → Prop} {cc : ByteArray} {nL cells slots : Nat} {own : String} {Q : State → Prop} {pc : Nat} {lv : List (Nat × Value)} {st : List Value} {b n : Nat} {lay : Nat → sx_K} {f : sx_F}
theorem sx_geti (C : sx_Cx p l s m args meth c D G A cc nL own) {ref C0 : String} {T : u_T} {N ci index j : Nat} (d : decode cc pc = .ok (.getfield index, 3)) (hlink : Cond.fieldLink own index ref (T j).2.1 (T j).2.2.1 ∈ sx_ws) (hin : ∀ w ∈ u_ws C0 T N, w ∈ sx_ws) (hc : vwCl[ci]? = some (C0, T, N)) (hjN : j < N) (hsame : (T j).1 = ref) {k : Nat} {fs : List (Option (Option Nat))} (hk : k < n) (hl : lay k = .inr (.inr (ci, fs))) (hj : fs[j]? = some none) (q : Nat) (hq : pc + 3 = q) (kk : sx_J (sx_w G b lay n) p l e R s m args below meth c D A nL cells slots Q (f) (q) (lv) (.int (f k j) :: st)) : sx_J (sx_w G b lay n) p l e R s m args below meth c D A nL cells slots Q (f) (pc) (lv) (.ref (b + k) :: st) := by
  subst hq
  subst hsame
  intro H locs ls hP hS hls
  have hg := sx_get (G := G) (b := b) (lay := lay) (f := f) hk
  rw [hl] at hg
  exact va_get C.1 C.2.1 (C.2.2.2.2.1) hin C.2.2.2.1 C.2.2.2.2.2.2.2.2.1 hP k hg hc j hjN (C.2.2.2.2.1 _ hlink) (fun x h => h) (by have h9 := sx_fv_i b (f k) fs 0 j hj; rw [Nat.zero_add] at h9; exact h9) d (kk H locs ls hP hS hls)
theorem sx_getiN (C : sx_Cx p l s m args meth c D G A cc nL own) {ref C0 host : String} {T : u_T} {N ci index j : Nat} (d : decode cc pc = .ok (.getfield index, 3)) (hlink : Cond.fieldLinkNest own index ref (T j).2.1 (T j).2.2.1 host ∈ sx_nw) (hin : ∀ w ∈ u_ws C0 T N, w ∈ sx_ws) (hc : vwCl[ci]? = some (C0, T, N)) (hjN : j < N) (hsame : (T j).1 = ref) {k : Nat} {fs : List (Option (Option Nat))} (hk : k < n) (hl : lay k = .inr (.inr (ci, fs))) (hj : fs[j]? = some none) (q : Nat) (hq : pc + 3 = q) (kk : sx_J (sx_w G b lay n) p l e R s m args below meth c D A nL cells slots Q (f) (q) (lv) (.int (f k j) :: st)) : sx_J (sx_w G b lay n) p l e R s m args below meth c D A nL cells slots Q (f) (pc) (lv) (.ref (b + k) :: st) := by
  subst hq
  subst hsame
  intro H locs ls hP hS hls
  have hg := sx_get (G := G) (b := b) (lay := lay) (f := f) hk
  rw [hl] at hg
  exact va_getN C.1 C.2.1 (C.2.2.2.2.1) hin C.2.2.2.1 C.2.2.2.2.2.2.2.2.1 hP k hg hc j hjN (va_Nw.use rfl (C.2.2.2.2.2.2.2.2.2.1 _ hlink)) (fun x h => h) (by have h9 := sx_fv_i b (f k) fs 0 j hj; rw [Nat.zero_add] at h9; exact h9) d (kk H locs ls hP hS hls)
theorem sx_getq (C : sx_Cx p l s m args meth c D G A cc nL own) {ref C0 : String} {T : u_T} {N ci index j : Nat} (d : decode cc pc = .ok (.getfield index, 3)) (hlink : Cond.fieldLink own index ref (T j).2.1 (T j).2.2.1 ∈ sx_ws) (hin : ∀ w ∈ u_ws C0 T N, w ∈ sx_ws) (hc : vwCl[ci]? = some (C0, T, N)) (hjN : j < N) (hsame : (T j).1 = ref) {k r : Nat} {fs : List (Option (Option Nat))} (hk : k < n) (hl : lay k = .inr (.inr (ci, fs))) (hj : fs[j]? = some (some (some r))) (q : Nat) (hq : pc + 3 = q) (kk : sx_J (sx_w G b lay n) p l e R s m args below meth c D A nL cells slots Q (f) (q) (lv) (.ref (b + r) :: st)) : sx_J (sx_w G b lay n) p l e R s m args below meth c D A nL cells slots Q (f) (pc) (lv) (.ref (b + k) :: st) := by
  subst hq
  subst hsame
  intro H locs ls hP hS hls
  have hg := sx_get (G := G) (b := b) (lay := lay) (f := f) hk
  rw [hl] at hg
  exact va_get C.1 C.2.1 (C.2.2.2.2.1) hin C.2.2.2.1 C.2.2.2.2.2.2.2.2.1 hP k hg hc j hjN (C.2.2.2.2.1 _ hlink) (fun x h => h) (sx_fv_q b (f k) fs 0 j (some r) hj) d (kk H locs ls hP hS hls)
theorem sx_getqN (C : sx_Cx p l s m args meth c D G A cc nL own) {ref C0 host : String} {T : u_T} {N ci index j : Nat} (d : decode cc pc = .ok (.getfield index, 3)) (hlink : Cond.fieldLinkNest own index ref (T j).2.1 (T j).2.2.1 host ∈ sx_nw) (hin : ∀ w ∈ u_ws C0 T N, w ∈ sx_ws) (hc : vwCl[ci]? = some (C0, T, N)) (hjN : j < N) (hsame : (T j).1 = ref) {k r : Nat} {fs : List (Option (Option Nat))} (hk : k < n) (hl : lay k = .inr (.inr (ci, fs))) (hj : fs[j]? = some (some (some r))) (q : Nat) (hq : pc + 3 = q) (kk : sx_J (sx_w G b lay n) p l e R s m args below meth c D A nL cells slots Q (f) (q) (lv) (.ref (b + r) :: st)) : sx_J (sx_w G b lay n) p l e R s m args below meth c D A nL cells slots Q (f) (pc) (lv) (.ref (b + k) :: st) := by
  subst hq
  subst hsame
  intro H locs ls hP hS hls
  have hg := sx_get (G := G) (b := b) (lay := lay) (f := f) hk
  rw [hl] at hg
  exact va_getN C.1 C.2.1 (C.2.2.2.2.1) hin C.2.2.2.1 C.2.2.2.2.2.2.2.2.1 hP k hg hc j hjN (va_Nw.use rfl (C.2.2.2.2.2.2.2.2.2.1 _ hlink)) (fun x h => h) (sx_fv_q b (f k) fs 0 j (some r) hj) d (kk H locs ls hP hS hls)
theorem sx_puti (C : sx_Cx p l s m args meth c D G A cc nL own) {ref C0 : String} {T : u_T} {N ci index j : Nat} (d : decode cc pc = .ok (.putfield index, 3)) (hlink : Cond.fieldLink own index ref (T j).2.1 (T j).2.2.1 ∈ sx_ws) (hin : ∀ w ∈ u_ws C0 T N, w ∈ sx_ws) (hc : vwCl[ci]? = some (C0, T, N)) (ty : Nat → FieldType) (hty : ∀ k, k < N → parseFieldDescriptor (T k).2.2.1 = some (ty k)) (hnm : ∀ a, a < N → ∀ b, b < N → a ≠ b → (T a).2.1 ≠ (T b).2.1) (hjN : j < N) (hsame : (T j).1 = ref) (hfin : (T j).2.2.2 = false) (hint : ty j = .int) (hB : ∀ k, k < n → A (b + k)) {k : Nat} {fs : List (Option (Option Nat))} (hk : k < n) (hl : lay k = .inr (.inr (ci, fs))) (hj : fs[j]? = some none) (q : Nat) (hq : pc + 3 = q) {v : Int32} (kk : ∀ f1 : sx_F, f1 = sx_u f k j v → sx_J (sx_w G b lay n) p l e R s m args below meth c D A nL cells slots Q (f1) (q) (lv) (st)) : sx_J (sx_w G b lay n) p l e R s m args below meth c D A nL cells slots Q (f) (pc) (lv) (.int v :: .ref (b + k) :: st) := by
  subst hq
  subst hsame
  intro H locs ls hP hS hls
  have hg := sx_get (G := G) (b := b) (lay := lay) (f := f) hk
  rw [hl] at hg
  have hd := hty j hjN
  rw [hint] at hd
  refine va_put C.1 C.2.1 (C.2.2.2.2.1) hin ty hty hnm C.2.2.2.1 C.2.2.2.2.2.2.2.2.1 hP (sx_D hB) hS k hg hc j hjN (C.2.2.2.2.1 _ hlink) (fun x h => h) hfin (v := .int v) hd rfl rfl (by rw [sx_fv_len]; exact (List.getElem?_eq_some_iff.mp hj).1) d (fun H1 locs1 hP1 _ hS1 => kk _ rfl H1 locs1 ls ?_ hS1 hls)
  have e : (sx_w G b lay n f).set k (b + k, .inr (ci, (sx_fv b (f k) fs 0).set j (.int v))) = sx_w G b lay n (sx_u f k j v) := sx_set hk (by
    rw [hl, sx_u_s]
    show _ = Sum.inr (ci, sx_fv b (upd (f k) j v) fs 0)
    rw [sx_fv_set b (f k) v fs 0 j hj, Nat.zero_add]) (fun i hi => sx_u_n hi)
  rw [← e]
  exact hP1
theorem sx_putiN (C : sx_Cx p l s m args meth c D G A cc nL own) {ref C0 host : String} {T : u_T} {N ci index j : Nat} (d : decode cc pc = .ok (.putfield index, 3)) (hlink : Cond.fieldLinkNest own index ref (T j).2.1 (T j).2.2.1 host ∈ sx_nw) (hin : ∀ w ∈ u_ws C0 T N, w ∈ sx_ws) (hc : vwCl[ci]? = some (C0, T, N)) (ty : Nat → FieldType) (hty : ∀ k, k < N → parseFieldDescriptor (T k).2.2.1 = some (ty k)) (hnm : ∀ a, a < N → ∀ b, b < N → a ≠ b → (T a).2.1 ≠ (T b).2.1) (hjN : j < N) (hsame : (T j).1 = ref) (hfin : (T j).2.2.2 = false) (hint : ty j = .int) (hB : ∀ k, k < n → A (b + k)) {k : Nat} {fs : List (Option (Option Nat))} (hk : k < n) (hl : lay k = .inr (.inr (ci, fs))) (hj : fs[j]? = some none) (q : Nat) (hq : pc + 3 = q) {v : Int32} (kk : ∀ f1 : sx_F, f1 = sx_u f k j v → sx_J (sx_w G b lay n) p l e R s m args below meth c D A nL cells slots Q (f1) (q) (lv) (st)) : sx_J (sx_w G b lay n) p l e R s m args below meth c D A nL cells slots Q (f) (pc) (lv) (.int v :: .ref (b + k) :: st) := by
  subst hq
  subst hsame
  intro H locs ls hP hS hls
  have hg := sx_get (G := G) (b := b) (lay := lay) (f := f) hk
  rw [hl] at hg
  have hd := hty j hjN
  rw [hint] at hd
  refine va_putN C.1 C.2.1 (C.2.2.2.2.1) hin ty hty hnm C.2.2.2.1 C.2.2.2.2.2.2.2.2.1 hP (sx_D hB) hS k hg hc j hjN (va_Nw.use rfl (C.2.2.2.2.2.2.2.2.2.1 _ hlink)) (fun x h => h) hfin (v := .int v) hd rfl rfl (by rw [sx_fv_len]; exact (List.getElem?_eq_some_iff.mp hj).1) d (fun H1 locs1 hP1 _ hS1 => kk _ rfl H1 locs1 ls ?_ hS1 hls)
  have e : (sx_w G b lay n f).set k (b + k, .inr (ci, (sx_fv b (f k) fs 0).set j (.int v))) = sx_w G b lay n (sx_u f k j v) := sx_set hk (by
    rw [hl, sx_u_s]
    show _ = Sum.inr (ci, sx_fv b (upd (f k) j v) fs 0)
    rw [sx_fv_set b (f k) v fs 0 j hj, Nat.zero_add]) (fun i hi => sx_u_n hi)
  rw [← e]
  exact hP1
theorem sx_iald (C : sx_Cx p l s m args meth c D G A cc nL own) (d : decode cc pc = .ok (.iaload, 1)) {k N : Nat} {i : Int32} (hk : k < n) (hl : lay k = .inl N) (hin : vp_in i N) (q : Nat) (hq : pc + 1 = q) (kk : sx_J (sx_w G b lay n) p l e R s m args below meth c D A nL cells slots Q (f) (q) (lv) (.int (f k i.toNatClampNeg) :: st)) : sx_J (sx_w G b lay n) p l e R s m args below meth c D A nL cells slots Q (f) (pc) (lv) (.int i :: .ref (b + k) :: st) := by
  subst hq
  intro H locs ls hP hS hls
  have hg := sx_get (G := G) (b := b) (lay := lay) (f := f) hk
  rw [hl] at hg
  exact va_iald C.1 C.2.1 C.2.2.2.2.2.2.2.2.1 hP k 0 hg rfl hin d (kk H locs ls hP hS hls)
theorem sx_iast (C : sx_Cx p l s m args meth c D G A cc nL own) (d : decode cc pc = .ok (.iastore, 1)) (hB : ∀ k, k < n → A (b + k)) {k N : Nat} {i x : Int32} (hk : k < n) (hl : lay k = .inl N) (hin : vp_in i N) (q : Nat) (hq : pc + 1 = q) (kk : ∀ f1 : sx_F, f1 = sx_u f k i.toNatClampNeg x → sx_J (sx_w G b lay n) p l e R s m args below meth c D A nL cells slots Q (f1) (q) (lv) (st)) : sx_J (sx_w G b lay n) p l e R s m args below meth c D A nL cells slots Q (f) (pc) (lv) (.int x :: .int i :: .ref (b + k) :: st) := by
  subst hq
  intro H locs ls hP hS hls
  have hg := sx_get (G := G) (b := b) (lay := lay) (f := f) hk
  rw [hl] at hg
  refine va_iast C.1 C.2.1 C.2.2.2.2.2.2.2.2.1 hP (sx_D hB) hS k 0 hg rfl hin d (fun H1 locs1 hP1 _ hS1 => kk _ rfl H1 locs1 ls ?_ hS1 hls)
  have e : (sx_w G b lay n f).set k (b + k, .inl (G.1, N, .inl (upd (f k) i.toNatClampNeg x))) = sx_w G b lay n (sx_u f k i.toNatClampNeg x) := sx_set hk (by rw [hl, sx_u_s]; rfl) (fun j hj => sx_u_n hj)
  rw [← e]
  exact hP1
theorem sx_aald (C : sx_Cx p l s m args meth c D G A cc nL own) (d : decode cc pc = .ok (.aaload, 1)) {k t N r : Nat} {g : Nat → Option Nat} {ty : FieldType} {i : Int32} (hk : k < n) (hl : lay k = .inr (.inl (t, N, g))) (ht : (sx_tys G)[t + 1]? = some (G.2 t, ty)) (href : ty.isReference = true) (hin : vp_in i N) (hr : g i.toNatClampNeg = some r) (q : Nat) (hq : pc + 1 = q) (kk : sx_J (sx_w G b lay n) p l e R s m args below meth c D A nL cells slots Q (f) (q) (lv) (.ref (b + r) :: st)) : sx_J (sx_w G b lay n) p l e R s m args below meth c D A nL cells slots Q (f) (pc) (lv) (.int i :: .ref (b + k) :: st) := by
  subst hq
  intro H locs ls hP hS hls
  have hg := sx_get (G := G) (b := b) (lay := lay) (f := f) hk
  rw [hl] at hg
  have hlt : i.toNatClampNeg < N := Nat.not_le.mp fun z => hin (Or.inr z)
  refine W.aald (v := .ref (b + r)) (ty := ty) C.1 C.2.1 (hP k _ hg) ((C.2.2.2.2.2.2.2.2.1.2 (t + 1) _ ht).1 N (fun j => va_rf ((g j).map (fun k => b + k)))) href (fun z => by cases z) (by show ¬ (i < 0 ∨ (arrV _ _ _).slots.size ≤ _); rw [arrV_size]; exact hin) ?_ rfl rfl d (kk H locs ls hP hS hls)
  show (arrV _ _ _).slots[_]? = _
  rw [arrV_read _ _ hlt]
  show some (va_rf ((g i.toNatClampNeg).map (fun k => b + k))) = some (Value.ref (b + r))
  rw [hr]
  rfl
theorem sx_alen (C : sx_Cx p l s m args meth c D G A cc nL own) (d : decode cc pc = .ok (.arraylength, 1)) {k N : Nat} (hk : k < n) (hl : lay k = .inl N) (v : Int32) (hv : Int32.ofNat N = v) (q : Nat) (hq : pc + 1 = q) (kk : sx_J (sx_w G b lay n) p l e R s m args below meth c D A nL cells slots Q (f) (q) (lv) (.int v :: st)) : sx_J (sx_w G b lay n) p l e R s m args below meth c D A nL cells slots Q (f) (pc) (lv) (.ref (b + k) :: st) := by
  subst hq
  intro H locs ls hP hS hls
  have hg := sx_get (G := G) (b := b) (lay := lay) (f := f) hk
  rw [hl] at hg
  exact va_alen C.1 C.2.1 C.2.2.2.2.2.2.2.2.1 hP k 0 hg rfl hv d (kk H locs ls hP hS hls)
end SY
/-! contracts: a method of a world; it answers (v, u) with Qv v u, or throws an E with X E u -/
section SC
variable {σ : Type}
def sx_Qc (D : va_G) (wd : σ → va_W) (A : Nat → Prop) (Qv : Option Value → σ → Prop) : Array Value → State → Outcome → State → Prop := fun _ st o t => (∃ (v : Option Value) (u : σ), o = .returned v ∧ Qv v u ∧ va_P D vwCl (wd u) t.heap) ∧ va_F A st t
def sx_XC (D : va_G) (wd : σ → va_W) (A : Nat → Prop) (X : String → σ → Prop) : String → State → State → Prop := fun E st t => ∃ u : σ, X E u ∧ va_P D vwCl (wd u) t.heap ∧ va_F A st t
def sx_Pre (D : va_G) (G : sx_G) (b n : Nat) (lay : Nat → sx_K) (as : List Value) (f : sx_F) (sz : Nat) : Array Value → State → Prop := va_Pc as (fun U => U.heap.size = sz ∧ va_P D vwCl (sx_w G b lay n f) U.heap ∧ sx_V D G (sx_A b n sz) U U.heap)
def sx_Met (l : Launch) (D : va_G) (G : sx_G) (b n : Nat) (lay : Nat → sx_K) (y : MethodName) (cc : ByteArray) (maxL : Nat) (ret : Option FieldType) (fr lo mc ms : Nat) (as : List Value) (f : sx_F) (Qv : Option Value → sx_F → Prop) (X : String → sx_F → Prop) : Prop :=
  ∀ sz : Nat, vx_Met l y (Cond.code y cc maxL ret :: sx_ws) { frames := fr, cells := mc, slots := ms, locals := lo } (sx_Pre D G b n lay as f sz) (sx_Qc D (sx_w G b lay n) (sx_A b n sz) Qv) (sx_XC D (sx_w G b lay n) (sx_A b n sz) X) mc ms (sx_A b n sz)
def sx_MetN (l : Launch) (D : va_G) (G : sx_G) (b n : Nat) (lay : Nat → sx_K) (y : MethodName) (cc : ByteArray) (maxL : Nat) (ret : Option FieldType) (fr lo : Nat) (as : List Value) (f : sx_F) (Qv : Option Value → sx_F → Prop) : Prop :=
  ∀ sz : Nat, Met l y (Cond.code y cc maxL ret :: sx_ws) { frames := fr, cells := 0, slots := 0, locals := lo } (sx_Pre D G b n lay as f sz) (sx_Qc D (sx_w G b lay n) (sx_A b n sz) Qv) 0 0 (sx_A b n sz)
def sx_fin (D : va_G) (wd : σ → va_W) (A : Nat → Prop) (below : List Frame) (args : Array Value) (s : State) (mc ms : Nat) (Qv : Option Value → σ → Prop) (X : String → σ → Prop) : State → Prop := vx_MQ below (sx_Qc D wd A Qv) (sx_XC D wd A X) args s mc ms A
theorem sx_gi {y : MethodName} {cc : ByteArray} {maxL : Nat} {ret : Option FieldType} (hc : Cond.code y cc maxL ret ∈ sx_ws) : GoodIn sx_ws (Cond.code y cc maxL ret :: sx_ws) := fun w hw => by
  have h1 : w ∈ sx_ws := (List.mem_cons.mp hw).elim (fun e => by rw [e]; exact hc) id
  exact ⟨h1, good_of_word (List.mem_filter.mp h1).2⟩
/-- the words of a method that is called: its code, whose it is -/
def sx_Mi (y : MethodName) (cc : ByteArray) (maxL : Nat) (ret : Option FieldType) (na : Nat) : Prop :=
  Cond.code y cc maxL ret ∈ sx_ws ∧ Cond.initialized y.cls ∈ sx_ws ∧ y.cls ≠ "java/lang/invoke/MethodHandle" ∧ y.cls ≠ "java/lang/invoke/VarHandle" ∧ (parseMethodDescriptor y.desc).map (fun d => d.parameters.length) = some na
theorem sx_blind {D : va_G} {G : sx_G} {b n sz : Nat} {lay : Nat → sx_K} {as : List Value} {f : sx_F} : FrameBlind (sx_Pre D G b n lay as f sz) := fun a U g mk h => ⟨h.1, h.2.1, h.2.2.1, sx_V.warm (s := U) (U := U.calling g mk a) (State.WarmedH.refl U) h.2.2.2⟩
variable {p : Program} {l : Launch} {e : Env} {R : Room} {s : State} {m : MethodId} {args : Array Value} {below : List Frame} {meth : Method} {c : Code} {D : va_G} {G : sx_G} {A : Nat → Prop} {cc : ByteArray} {nL cells slots : Nat} {own : String} {Q : State → Prop} {pc : Nat} {lv : List (Nat × Value)} {st : List Value} {b n : Nat} {lay : Nat → sx_K} {f : sx_F} {wd : σ → va_W}
/-- a method from its entry -/
theorem sx_enter {y : MethodName} {maxL : Nat} {ret : Option FieldType} {fr lo mc ms : Nat} {as : List Value} {Qv : Option Value → sx_F → Prop} {X : String → sx_F → Prop} (hl : l.stackTraces = false) (hy : plainName y.cls = true) (hn : (lg_sl as).length ≤ maxL)
    (body : ∀ (p : Program) (e : Env) (s : State) (m : MethodId) (args : Array Value) (below : List Frame) (meth : Method) (c : Code), sx_Cx p l s m args meth c D G (sx_A b n s.heap.size) cc maxL y.cls → meth.sig.returnType = ret → (∀ x ∈ c.exceptionTable.toList, False) →
      sx_J (sx_w G b lay n) p l e { frames := fr, cells := mc, slots := ms, locals := lo } s m args below meth c D (sx_A b n s.heap.size) maxL 0 0 (sx_fin D (sx_w G b lay n) (sx_A b n s.heap.size) below args s mc ms Qv X) f 0 (lv_args 0 as) []) : sx_Met l D G b n lay y cc maxL ret fr lo mc ms as f Qv X := by
  intro sz
  refine vx_ofW (cc := cc) (maxL := maxL) (ret := ret) hy rfl ?_
  intro p e s m args below meth c s₁ B hml ht hv
  obtain ⟨rfl, hsz, hP, hV⟩ := hv
  subst hsz
  have hts := atoms_spec (ws := Cond.code y cc maxL ret :: sx_ws) B.pre
  have hC : sx_Cx p l s m as.toArray meth c D G (sx_A b n s.heap.size) cc maxL y.cls := ⟨B.exec, B.bytes, hml, findClass_of_methodNamed B.named, fun w hw => hts w (List.mem_cons_of_mem _ hw), fun q hq => Or.inr hq, B.notSynchronized, hl, hV⟩
  rw [lg_entry_eq]
  exact body p e s m as.toArray below meth c hC B.returns ht s.heap [] _ hP va_S.rf (lv_entry as hn)
theorem sx_enterN {y : MethodName} {maxL : Nat} {ret : Option FieldType} {fr lo : Nat} {as : List Value} {Qv : Option Value → sx_F → Prop} (hl : l.stackTraces = false) (hy : plainName y.cls = true) (hn : (lg_sl as).length ≤ maxL)
    (body : ∀ (p : Program) (e : Env) (s : State) (m : MethodId) (args : Array Value) (below : List Frame) (meth : Method) (c : Code), sx_Cx p l s m args meth c D G (sx_A b n s.heap.size) cc maxL y.cls → meth.sig.returnType = ret →
      sx_J (sx_w G b lay n) p l e { frames := fr, cells := 0, slots := 0, locals := lo } s m args below meth c D (sx_A b n s.heap.size) maxL 0 0 (MQ below (sx_Qc D (sx_w G b lay n) (sx_A b n s.heap.size) Qv) args s 0 0 (sx_A b n s.heap.size)) f 0 (lv_args 0 as) []) : sx_MetN l D G b n lay y cc maxL ret fr lo as f Qv := by
  intro sz
  refine Met.ofW (cc := cc) (maxL := maxL) (ret := ret) hy rfl ?_
  intro p e s m args below meth c s₁ B hml hv
  obtain ⟨rfl, hsz, hP, hV⟩ := hv
  subst hsz
  have hts := atoms_spec (ws := Cond.code y cc maxL ret :: sx_ws) B.pre
  have hC : sx_Cx p l s m as.toArray meth c D G (sx_A b n s.heap.size) cc maxL y.cls := ⟨B.exec, B.bytes, hml, findClass_of_methodNamed B.named, fun w hw => hts w (List.mem_cons_of_mem _ hw), fun q hq => Or.inr hq, B.notSynchronized, hl, hV⟩
  rw [lg_entry_eq]
  exact body p e s m as.toArray below meth c hC B.returns s.heap [] _ hP va_S.rf (lv_entry as hn)
theorem sx_iret (C : sx_Cx p l s m args meth c D G A cc nL own) {mc ms : Nat} {Qv : Option Value → σ → Prop} {X : String → σ → Prop} {v : Int32} {u : σ} (d : decode cc pc = .ok (.ireturn, 1)) (hr : meth.sig.returnType = some .int) (hc : cells ≤ mc) (hs : slots ≤ ms) (hQ : Qv (some (.int v)) u) : sx_J wd p l e R s m args below meth c D A nL cells slots (sx_fin D wd A below args s mc ms Qv X) u pc lv [.int v] := fun H locs ls hP hS hl =>
  W.widen hc hs (vx_ret (W.iret C.1 C.2.1 hr (fun t ht _ => ⟨⟨_, u, rfl, hQ, by rw [ht]; exact hP⟩, hS.F ht⟩) hS.2.2 d C.2.2.2.2.2.2.1))
theorem sx_iretN (C : sx_Cx p l s m args meth c D G A cc nL own) {Qv : Option Value → σ → Prop} {v : Int32} {u : σ} (d : decode cc pc = .ok (.ireturn, 1)) (hr : meth.sig.returnType = some .int) (hQ : Qv (some (.int v)) u) : sx_J wd p l e R s m args below meth c D A nL cells slots (MQ below (sx_Qc D wd A Qv) args s cells slots A) u pc lv [.int v] := fun H locs ls hP hS hl =>
  W.iret C.1 C.2.1 hr (fun t ht _ => ⟨⟨_, u, rfl, hQ, by rw [ht]; exact hP⟩, hS.F ht⟩) hS.2.2 d C.2.2.2.2.2.2.1
theorem sx_zret (C : sx_Cx p l s m args meth c D G A cc nL own) {mc ms : Nat} {Qv : Option Value → σ → Prop} {X : String → σ → Prop} {v : Int32} {u : σ} (d : decode cc pc = .ok (.ireturn, 1)) (hr : meth.sig.returnType = some .boolean) (hc : cells ≤ mc) (hs : slots ≤ ms) (hv : v = 0 ∨ v = 1) (hQ : Qv (some (.int v)) u) : sx_J wd p l e R s m args below meth c D A nL cells slots (sx_fin D wd A below args s mc ms Qv X) u pc lv [.int v] := fun H locs ls hP hS hl =>
  W.widen hc hs (vx_ret (W.zret C.1 C.2.1 hr (by rcases hv with rfl | rfl <;> rfl) (fun t ht _ => ⟨⟨_, u, rfl, hQ, by rw [ht]; exact hP⟩, hS.F ht⟩) hS.2.2 d C.2.2.2.2.2.2.1))
theorem sx_vret (C : sx_Cx p l s m args meth c D G A cc nL own) {mc ms : Nat} {Qv : Option Value → σ → Prop} {X : String → σ → Prop} {u : σ} (d : decode cc pc = .ok (.return_, 1)) (hr : meth.sig.returnType = none) (hc : cells ≤ mc) (hs : slots ≤ ms) (hQ : Qv none u) : sx_J wd p l e R s m args below meth c D A nL cells slots (sx_fin D wd A below args s mc ms Qv X) u pc lv [] := fun H locs ls hP hS hl =>
  W.widen hc hs (vx_ret (W.vret C.1 C.2.1 hr (fun t ht _ => ⟨⟨_, u, rfl, hQ, by rw [ht]; exact hP⟩, hS.F ht⟩) hS.2.2 d C.2.2.2.2.2.2.1))
theorem sx_aret (C : sx_Cx p l s m args meth c D G A cc nL own) {mc ms : Nat} {Qv : Option Value → σ → Prop} {X : String → σ → Prop} {a : Nat} {u : σ} {nm : String} (d : decode cc pc = .ok (.areturn, 1)) (hr : meth.sig.returnType = some (.object nm)) (hc : cells ≤ mc) (hs : slots ≤ ms) (hQ : Qv (some (.ref a)) u) : sx_J wd p l e R s m args below meth c D A nL cells slots (sx_fin D wd A below args s mc ms Qv X) u pc lv [.ref a] := fun H locs ls hP hS hl =>
  W.widen hc hs (vx_ret (W.aret C.1 C.2.1 hr (Or.inl ⟨_, rfl⟩) (Or.inr ⟨_, rfl⟩) (fun t ht _ => ⟨⟨_, u, rfl, hQ, by rw [ht]; exact hP⟩, hS.F ht⟩) hS.2.2 d C.2.2.2.2.2.2.1))
/-- 'throw new E("text")' -/
theorem sx_throw (C : sx_Cx p l s m args meth c D G A cc nL own) (ht : ∀ x ∈ c.exceptionTable.toList, False) {mc ms : Nat} {Qv : Option Value → σ → Prop} {X : String → σ → Prop} {u : σ} {cls text : String} {names : List String} {ik is ic : Nat}
    (d0 : decode cc pc = .ok (.new ik, 3)) (d3 : decode cc (pc + 3) = .ok (.dup, 1)) (d4 : decode cc (pc + 4) = .ok (.ldc is, 2)) (d6 : decode cc (pc + 6) = .ok (.invokespecial ic, 3)) (d9 : decode cc (pc + 9) = .ok (.athrow, 1))
    (hcls : Bundle.fit cls = true ∧ (∀ n ∈ names, Bundle.fit n = true)) (hk : Cond.classLink own ik cls ∈ sx_ws) (hini : Cond.initialized cls ∈ sx_ws) (hstr : (own, is, text) ∈ sx_str) (hat : ∀ w ∈ vx_atS own ic cls names, w ∈ sx_ws ∨ w ∈ sx_nw)
    (hgood : ∀ w ∈ Cond.classLink own ik cls :: Cond.initialized cls :: vx_atS own ic cls names, vx_ot w = true)
    (hR : names.length + 3 < R.frames ∧ (st.map fun v => v.category).sum + (13 * (names.length + 1) + 43) ≤ R.locals ∧ cells + 1 ≤ R.cells ∧ slots + 6 ≤ R.slots) (hc : cells + 1 ≤ mc) (hs : slots + 6 ≤ ms) (hX : X cls u) :
    sx_J wd p l e R s m args below meth c D A nL cells slots (sx_fin D wd A below args s mc ms Qv X) u pc lv st := by
  intro H locs ls hP hS hl
  obtain ⟨sa, hsa⟩ := C.2.2.2.2.2.2.2.2.2.2.1 _ hstr
  refine vx_throwS C.1 C.2.1 C.2.2.2.2.2.2.2.1 C.2.2.2.1 hcls.1 hcls.2 (C.2.2.2.2.1 _ hk) (C.2.2.2.2.1 _ hini) hsa (fun w hw => ?_) hgood C.2.2.2.2.2.2.2.2.2.2.2.1 C.2.2.2.2.2.2.2.2.2.2.2.2 hS (hl.1.trans C.2.2.1.symm) d0 d3 d4 d6 d9 (fun x hx => (ht x hx).elim) hR.1 hR.2.1 hR.2.2.1 hR.2.2.2 C.2.2.2.2.2.2.1 (fun t _ h1 h2 => ?_) hS.2.2 hc hs
  · rcases hat w hw with h | h
    · exact C.2.2.2.2.1 w h
    · exact va_Nw.use (by
        have h9 := (List.mem_filter.mp h).2
        cases w <;> first | rfl | simp [sx_kw] at h9) (C.2.2.2.2.2.2.2.2.2.1 w h)
  · exact ⟨u, hX, hP.kept (fun k q hk => h2 q.1 (hP k q hk).lt), Nat.le_trans hS.1 h1, fun q h3 h4 => by rw [h2 q (Nat.lt_of_lt_of_le h3 hS.1)]; exact hS.2.1 q h3 h4⟩
/-- a call that has been made: back here with its answer, or with what it threw -/
theorem sx_back {H : Heap} {locs : List Loc} {ls : Array Slot} {st0 : List Value} {mc ms : Nat} {A1 : Nat → Prop} {free : Addr → Prop} {a : Array Value} {Qv : Option Value → σ → Prop} {X : String → σ → Prop}
    (hr : vx_Run p l e R s m args below meth c H locs cells slots mc ms (F0 m pc ls st0) st (sx_Qc D wd A1 Qv a) (sx_XC D wd A1 X) free) (hS : va_S A s.heap H locs) (hA : ∀ q, q < H.size → A1 q → A q) (hf : ∀ q, free q → A q)
    (kk : ∀ (v : Option Value) (u : σ) (H1 : Heap) (locs1 : List Loc), Qv v u → va_P D vwCl (wd u) H1 → H.size ≤ H1.size → (∀ q : Nat, q < H.size → ¬ A1 q → H1[q]? = H[q]?) → va_S A s.heap H1 locs1 → W p l e R s m args below meth c H1 locs1 (cells + mc) (slots + ms) Q (F0 m (pc + 3) ls (v.toList ++ st)))
    (kx : ∀ (E : String) (ce : Cell) (q9 : Addr) (u : σ) (H1 : Heap) (locs1 : List Loc), X E u → va_P D vwCl (wd u) H1 → H.size ≤ H1.size → (∀ q : Nat, q < H.size → ¬ A1 q → H1[q]? = H[q]?) → va_S A s.heap H1 locs1 → H1[q9]? = some ce → ce.vm = .none → s.vm.findClass E = some ce.cls → vx_W p l e R s m args below meth c H1 locs1 (cells + mc) (slots + ms) Q (F0 m pc ls st) q9) :
    W p l e R s m args below meth c H locs cells slots Q (F0 m pc ls st0) := by
  intro T hT Xs
  rcases hr T hT Xs with ⟨v, st₀, t, T', L, h0, X', hL, e1, e2, ⟨⟨v', u, hv, hq, hP⟩, hF⟩, go⟩ | ⟨q, st₀, t, T', L, E, ce, h0, X', hL, e1, e2, ⟨u, hx, hP, hF⟩, hce, hcv, hcl, go⟩
  · have hvv : v = v' := by injection hv
    subst hvv
    obtain ⟨k1, k2, k3⟩ := vx_keep h0 e1 hS hA hf hL hF
    obtain ⟨t2, a1, b1⟩ := kk v u T'.heap (locs ++ L) hq (by rw [e1]; exact hP) k1 k2 k3 T' rfl X'
    exact ⟨t2, go t2 a1, b1⟩
  · obtain ⟨k1, k2, k3⟩ := vx_keep h0 e1 hS hA hf hL hF
    obtain ⟨t2, a1, b1⟩ := kx E ce q u T'.heap (locs ++ L) hx (by rw [e1]; exact hP) k1 k2 k3 (by rw [e1]; exact hce) hcv hcl T' rfl X'
    exact ⟨t2, go.trans a1, b1⟩
theorem sx_callee (C : sx_Cx p l s m args meth c D G A cc nL own) (hB : ∀ k, k < n → A (b + k)) {H : Heap} {locs : List Loc} (hS : va_S A s.heap H locs) {U : State} (hU : U.heap = H) (hW : s.WarmedH U.vm) : sx_V D G (sx_A b n H.size) U U.heap := by
  rw [hU]
  have h1 : sx_V D G A s H := C.2.2.2.2.2.2.2.2.kept hS.2.1
  refine (h1.narrow (fun q hq => ?_)).warm hW
  rcases hq with ⟨h2, h3⟩ | h2
  · have h4 := hB (q - b) (by omega)
    rw [show b + (q - b) = q by omega] at h4
    exact h4
  · exact C.2.2.2.2.2.1 q (Nat.le_trans hS.1 h2)
theorem sx_sub_A (C : sx_Cx p l s m args meth c D G A cc nL own) (hB : ∀ k, k < n → A (b + k)) {H : Heap} {locs : List Loc} (hS : va_S A s.heap H locs) : ∀ q, sx_A b n H.size q → A q := fun q hq => by
  rcases hq with ⟨h2, h3⟩ | h2
  · have h4 := hB (q - b) (by omega)
    rw [show b + (q - b) = q by omega] at h4
    exact h4
  · exact C.2.2.2.2.2.1 q (Nat.le_trans hS.1 h2)
theorem sx_runV (C : sx_Cx p l s m args meth c D G A cc nL own) (hB : ∀ k, k < n → A (b + k)) {y : MethodName} {bytes : ByteArray} {maxL index na k ci fr lo mc ms : Nat} {ret : Option FieldType} {fs : List (Option (Option Nat))} {r : vw_C} {As : List Value} {st0 : List Value} {Qv : Option Value → sx_F → Prop} {X : String → sx_F → Prop} (d : decode cc pc = .ok (.invokevirtual index, 3))
    (ct : sx_Met l D G b n lay y bytes maxL ret fr lo mc ms (.ref (b + k) :: As) f Qv X) (hy : sx_Mi y bytes maxL ret na) (hlink : Cond.methodLink own index y ∈ sx_ws) (hinst : Cond.instanceMethod y ∈ sx_ws) (hsel : Cond.selects y.cls y y ∈ sx_ws)
    (hk : k < n) (hl : lay k = .inr (.inr (ci, fs))) (hc : vwCl[ci]? = some r) (hrc : r.1 = y.cls) (hn : As.length = na) (hst : st0 = As.reverse ++ .ref (b + k) :: st)
    (hR : (fr + 1 ≤ R.frames ∧ 8 + (maxL + 11) + lo ≤ R.locals) ∧ cells + mc ≤ R.cells ∧ slots + ms ≤ R.slots) (hcat : (st.map fun v => v.category).sum ≤ 8) {H : Heap} {locs : List Loc} {ls : Array Slot} (hP : va_P D vwCl (sx_w G b lay n f) H) (hS : va_S A s.heap H locs) (hls : lv_has ls nL lv) :
    vx_Run p l e R s m args below meth c H locs cells slots mc ms (F0 m pc ls st0) st (sx_Qc D (sx_w G b lay n) (sx_A b n H.size) Qv (Value.ref (b + k) :: As).toArray) (sx_XC D (sx_w G b lay n) (sx_A b n H.size) X) (sx_A b n H.size) := by
  have hg := sx_get (G := G) (b := b) (lay := lay) (f := f) hk
  rw [hl] at hg
  have hrv := va_recv C.2.2.2.2.2.2.2.2.1 hP hc hg
  rw [hrc] at hrv
  have cb : CallB R s args own index y bytes maxL ret (Cond.code y bytes maxL ret :: sx_ws) { frames := fr, cells := mc, slots := ms, locals := lo } mc ms na := callB_of na C.2.2.2.2.1 (sx_gi hy.1) rfl rfl rfl (C.2.2.2.2.1 _ hy.2.1) (C.2.2.2.2.1 _ hlink) hy.2.2 hR.1
  exact vx_runV (As := As) (rest := st) ⟨C.1, C.2.1, C.2.2.1, C.2.2.2.1, C.2.2.2.2.1⟩ (ct H.size) ⟨cb, C.2.2.2.2.1 _ hinst, C.2.2.2.2.1 _ hsel⟩ ⟨sx_blind, hrv, fun U hU hW => ⟨rfl, by rw [hU], by rw [hU]; exact hP, sx_callee C hB hS hU hW⟩⟩ rfl hn hls.1 hst (lv_room (pc := pc) hcat) d hR.2
theorem sx_runS (C : sx_Cx p l s m args meth c D G A cc nL own) (hB : ∀ k, k < n → A (b + k)) {y : MethodName} {bytes : ByteArray} {maxL index na fr lo mc ms : Nat} {ret : Option FieldType} {As : List Value} {st0 : List Value} {Qv : Option Value → sx_F → Prop} {X : String → sx_F → Prop} (d : decode cc pc = .ok (.invokestatic index, 3))
    (ct : sx_Met l D G b n lay y bytes maxL ret fr lo mc ms As f Qv X) (hy : sx_Mi y bytes maxL ret na) (hlink : Cond.methodLink own index y ∈ sx_ws) (hstat : Cond.static y ∈ sx_ws) (hn : As.length = na) (hst : st0 = As.reverse ++ st)
    (hR : (fr + 1 ≤ R.frames ∧ 8 + (maxL + 11) + lo ≤ R.locals) ∧ cells + mc ≤ R.cells ∧ slots + ms ≤ R.slots) (hcat : (st.map fun v => v.category).sum ≤ 8) {H : Heap} {locs : List Loc} {ls : Array Slot} (hP : va_P D vwCl (sx_w G b lay n f) H) (hS : va_S A s.heap H locs) (hls : lv_has ls nL lv) :
    vx_Run p l e R s m args below meth c H locs cells slots mc ms (F0 m pc ls st0) st (sx_Qc D (sx_w G b lay n) (sx_A b n H.size) Qv As.toArray) (sx_XC D (sx_w G b lay n) (sx_A b n H.size) X) (sx_A b n H.size) := by
  have cb : CallB R s args own index y bytes maxL ret (Cond.code y bytes maxL ret :: sx_ws) { frames := fr, cells := mc, slots := ms, locals := lo } mc ms na := callB_of na C.2.2.2.2.1 (sx_gi hy.1) rfl rfl rfl (C.2.2.2.2.1 _ hy.2.1) (C.2.2.2.2.1 _ hlink) hy.2.2 hR.1
  exact vx_runS (As := As) (rest := st) ⟨C.1, C.2.1, C.2.2.1, C.2.2.2.1, C.2.2.2.2.1⟩ (ct H.size) ⟨cb, C.2.2.2.2.1 _ hstat⟩ ⟨sx_blind, fun U hU hW => ⟨rfl, by rw [hU], by rw [hU]; exact hP, sx_callee C hB hS hU hW⟩⟩ rfl hn hls.1 hst (lv_room (pc := pc) hcat) d hR.2
theorem sx_runSN (C : sx_Cx p l s m args meth c D G A cc nL own) (hB : ∀ k, k < n → A (b + k)) {y : MethodName} {bytes : ByteArray} {maxL index na fr lo : Nat} {host : String} {ret : Option FieldType} {As : List Value} {st0 : List Value} {Qv : Option Value → sx_F → Prop} (d : decode cc pc = .ok (.invokestatic index, 3))
    (ct : sx_MetN l D G b n lay y bytes maxL ret fr lo As f Qv) (hy : sx_Mi y bytes maxL ret na) (hlink : Cond.methodLinkNest own index y host ∈ sx_nw) (hstat : Cond.static y ∈ sx_ws) (hn : As.length = na) (hst : st0 = As.reverse ++ st)
    (hR : (fr + 1 ≤ R.frames ∧ 8 + (maxL + 11) + lo ≤ R.locals) ∧ cells + 0 ≤ R.cells ∧ slots + 0 ≤ R.slots) (hcat : (st.map fun v => v.category).sum ≤ 8) {H : Heap} {locs : List Loc} {ls : Array Slot} (hP : va_P D vwCl (sx_w G b lay n f) H) (hS : va_S A s.heap H locs) (hls : lv_has ls nL lv) :
    vx_Run p l e R s m args below meth c H locs cells slots 0 0 (F0 m pc ls st0) st (sx_Qc D (sx_w G b lay n) (sx_A b n H.size) Qv As.toArray) (sx_XC D (sx_w G b lay n) (sx_A b n H.size) (fun _ _ => False)) (sx_A b n H.size) := by
  have cn := va_cnB (bytes := bytes) (maxL := maxL) (ret := ret) (ws := Cond.code y bytes maxL ret :: sx_ws) (rm := { frames := fr, cells := 0, slots := 0, locals := lo }) (mc := 0) (ms := 0) (R := R) na C.2.2.2.2.1 (sx_gi hy.1) rfl rfl rfl (C.2.2.2.2.2.2.2.2.2.1 _ hlink) (C.2.2.2.2.1 _ hy.2.1) hy.2.2 hR.1
  intro T hT Xs
  obtain ⟨v, st₀, t, T', L, h0, X', hL, e1, e2, hq, go⟩ := va_runSN (As := As) (rest := st) (l := l) (below := below) (meth := meth) (locs := locs) (cells := cells) (slots := slots) (e := e) ⟨C.1, C.2.1, C.2.2.1, C.2.2.2.1, C.2.2.2.2.1⟩ (ct H.size) ⟨cn, C.2.2.2.2.1 _ hstat, trivial⟩ ⟨sx_blind, fun U hU hW => ⟨rfl, by rw [hU], by rw [hU]; exact hP, sx_callee C hB hS hU hW⟩⟩ (g := F0 m pc ls st0) rfl hn hls.1 hst (lv_room (pc := pc) hcat) d hR.2 T hT Xs
  exact Or.inl ⟨v, st₀, t, T', L, h0, X', hL, e1, e2, hq, go⟩
/-- an instance method of this world is called; what it throws goes on to the caller -/
theorem sx_callV (C : sx_Cx p l s m args meth c D G A cc nL own) (ht : ∀ x ∈ c.exceptionTable.toList, False) (hB : ∀ k, k < n → A (b + k)) {y : MethodName} {bytes : ByteArray} {maxL index na k ci fr lo mc ms mc0 ms0 : Nat} {ret : Option FieldType} {fs : List (Option (Option Nat))} {r : vw_C} {As : List Value} {st0 : List Value} {Qv Qv0 : Option Value → sx_F → Prop} {X X0 : String → sx_F → Prop} (d : decode cc pc = .ok (.invokevirtual index, 3))
    (ct : sx_Met l D G b n lay y bytes maxL ret fr lo mc ms (.ref (b + k) :: As) f Qv X) (hy : sx_Mi y bytes maxL ret na) (hlink : Cond.methodLink own index y ∈ sx_ws) (hinst : Cond.instanceMethod y ∈ sx_ws) (hsel : Cond.selects y.cls y y ∈ sx_ws)
    (hk : k < n) (hl : lay k = .inr (.inr (ci, fs))) (hc : vwCl[ci]? = some r) (hrc : r.1 = y.cls) (hn : As.length = na) (hst : st0 = As.reverse ++ .ref (b + k) :: st)
    (hR : (fr + 1 ≤ R.frames ∧ 8 + (maxL + 11) + lo ≤ R.locals) ∧ cells + mc ≤ R.cells ∧ slots + ms ≤ R.slots) (hcat : (st.map fun v => v.category).sum ≤ 8) (hmc : cells + mc ≤ mc0 ∧ slots + ms ≤ ms0) (kx : ∀ E u, X E u → X0 E u) (q : Nat) (hq : pc + 3 = q)
    (kk : ∀ (v : Option Value) (f1 : sx_F), Qv v f1 → sx_J (sx_w G b lay n) p l e R s m args below meth c D A nL (cells + mc) (slots + ms) (sx_fin D (sx_w G b lay n) A below args s mc0 ms0 Qv0 X0) f1 q lv (v.toList ++ st)) :
    sx_J (sx_w G b lay n) p l e R s m args below meth c D A nL cells slots (sx_fin D (sx_w G b lay n) A below args s mc0 ms0 Qv0 X0) f pc lv st0 := by
  subst hq
  intro H locs ls hP hS hls
  refine sx_back (sx_runV C hB d ct hy hlink hinst hsel hk hl hc hrc hn hst hR hcat hP hS hls) hS (fun q _ h => sx_sub_A C hB hS q h) (sx_sub_A C hB hS) (fun v u H1 locs1 hq hP1 _ _ hS1 => kk v u hq H1 locs1 ls hP1 hS1 hls) (fun E ce q9 u H1 locs1 hx hP1 _ _ hS1 h1 h2 h3 => ?_)
  exact vx_out (fun x hx => (ht x hx).elim) C.2.2.2.2.2.2.1 h1 h2 h3 (fun t htt _ => ⟨u, kx E u hx, by rw [htt]; exact hP1, hS1.F htt⟩) hS1.2.2 hmc.1 hmc.2
theorem sx_callS (C : sx_Cx p l s m args meth c D G A cc nL own) (ht : ∀ x ∈ c.exceptionTable.toList, False) (hB : ∀ k, k < n → A (b + k)) {y : MethodName} {bytes : ByteArray} {maxL index na fr lo mc ms mc0 ms0 : Nat} {ret : Option FieldType} {As : List Value} {st0 : List Value} {Qv Qv0 : Option Value → sx_F → Prop} {X X0 : String → sx_F → Prop} (d : decode cc pc = .ok (.invokestatic index, 3))
    (ct : sx_Met l D G b n lay y bytes maxL ret fr lo mc ms As f Qv X) (hy : sx_Mi y bytes maxL ret na) (hlink : Cond.methodLink own index y ∈ sx_ws) (hstat : Cond.static y ∈ sx_ws) (hn : As.length = na) (hst : st0 = As.reverse ++ st)
    (hR : (fr + 1 ≤ R.frames ∧ 8 + (maxL + 11) + lo ≤ R.locals) ∧ cells + mc ≤ R.cells ∧ slots + ms ≤ R.slots) (hcat : (st.map fun v => v.category).sum ≤ 8) (hmc : cells + mc ≤ mc0 ∧ slots + ms ≤ ms0) (kx : ∀ E u, X E u → X0 E u) (q : Nat) (hq : pc + 3 = q)
    (kk : ∀ (v : Option Value) (f1 : sx_F), Qv v f1 → sx_J (sx_w G b lay n) p l e R s m args below meth c D A nL (cells + mc) (slots + ms) (sx_fin D (sx_w G b lay n) A below args s mc0 ms0 Qv0 X0) f1 q lv (v.toList ++ st)) :
    sx_J (sx_w G b lay n) p l e R s m args below meth c D A nL cells slots (sx_fin D (sx_w G b lay n) A below args s mc0 ms0 Qv0 X0) f pc lv st0 := by
  subst hq
  intro H locs ls hP hS hls
  refine sx_back (sx_runS C hB d ct hy hlink hstat hn hst hR hcat hP hS hls) hS (fun q _ h => sx_sub_A C hB hS q h) (sx_sub_A C hB hS) (fun v u H1 locs1 hq hP1 _ _ hS1 => kk v u hq H1 locs1 ls hP1 hS1 hls) (fun E ce q9 u H1 locs1 hx hP1 _ _ hS1 h1 h2 h3 => ?_)
  exact vx_out (fun x hx => (ht x hx).elim) C.2.2.2.2.2.2.1 h1 h2 h3 (fun t htt _ => ⟨u, kx E u hx, by rw [htt]; exact hP1, hS1.F htt⟩) hS1.2.2 hmc.1 hmc.2
theorem sx_callSN (C : sx_Cx p l s m args meth c D G A cc nL own) (hB : ∀ k, k < n → A (b + k)) {y : MethodName} {bytes : ByteArray} {maxL index na fr lo : Nat} {host : String} {ret : Option FieldType} {As : List Value} {st0 : List Value} {Qv : Option Value → sx_F → Prop} (d : decode cc pc = .ok (.invokestatic index, 3))
    (ct : sx_MetN l D G b n lay y bytes maxL ret fr lo As f Qv) (hy : sx_Mi y bytes maxL ret na) (hlink : Cond.methodLinkNest own index y host ∈ sx_nw) (hstat : Cond.static y ∈ sx_ws) (hn : As.length = na) (hst : st0 = As.reverse ++ st)
    (hR : (fr + 1 ≤ R.frames ∧ 8 + (maxL + 11) + lo ≤ R.locals) ∧ cells + 0 ≤ R.cells ∧ slots + 0 ≤ R.slots) (hcat : (st.map fun v => v.category).sum ≤ 8) (q : Nat) (hq : pc + 3 = q)
    (kk : ∀ (v : Option Value) (f1 : sx_F), Qv v f1 → sx_J (sx_w G b lay n) p l e R s m args below meth c D A nL cells slots Q f1 q lv (v.toList ++ st)) :
    sx_J (sx_w G b lay n) p l e R s m args below meth c D A nL cells slots Q f pc lv st0 := by
  subst hq
  intro H locs ls hP hS hls
  exact sx_back (sx_runSN C hB d ct hy hlink hstat hn hst hR hcat hP hS hls) hS (fun q _ h => sx_sub_A C hB hS q h) (sx_sub_A C hB hS) (fun v u H1 locs1 hq hP1 _ _ hS1 => kk v u hq H1 locs1 ls hP1 hS1 hls) (fun E ce q9 u H1 locs1 hx hP1 _ _ hS1 h1 h2 h3 => hx.elim)
end SC
end
