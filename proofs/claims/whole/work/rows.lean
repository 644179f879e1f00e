section
-- ===== PART A: goes FIRST, ahead of the names: the tables' words, and 'selects' of the private methods out of them =====
/-- a private method of a class that the tables say can be made, by its rows of tables_1 -/
def lw_okq (q : MethodName × Nat) : Prop := (q.1.cls ≠ "java/lang/invoke/MethodHandle" ∧ q.1.cls ≠ "java/lang/invoke/VarHandle") ∧ Cond.instantiable q.1.cls q.2 ∈ tables_1 ∧ Cond.privateMethod q.1 ∈ tables_1 ∧ Cond.instanceMethod q.1 ∈ tables_1
theorem lw_p0 : lw_okq (⟨"java/lang/Throwable", "fillInStackTrace", "(I)Ljava/lang/Throwable;"⟩, 6) := ⟨⟨by decide +kernel, by decide +kernel⟩, List.mem_of_getElem? (i := 307) (by decide +kernel), List.mem_of_getElem? (i := 305) (by decide +kernel), List.mem_of_getElem? (i := 306) (by decide +kernel)⟩
theorem lw_p1 : lw_okq (⟨"Stavehouse", "needSlot", "(II)I"⟩, 7) := ⟨⟨by decide +kernel, by decide +kernel⟩, List.mem_of_getElem? (i := 18) (by decide +kernel), List.mem_of_getElem? (i := 365) (by decide +kernel), List.mem_of_getElem? (i := 366) (by decide +kernel)⟩
theorem lw_p2 : lw_okq (⟨"Stavehouse", "deskHasPart", "(II)Z"⟩, 7) := ⟨⟨by decide +kernel, by decide +kernel⟩, List.mem_of_getElem? (i := 18) (by decide +kernel), List.mem_of_getElem? (i := 454) (by decide +kernel), List.mem_of_getElem? (i := 455) (by decide +kernel)⟩
theorem lw_p3 : lw_okq (⟨"Stavehouse$Copy", "scoreVersion", "(I)I"⟩, 4) := ⟨⟨by decide +kernel, by decide +kernel⟩, List.mem_of_getElem? (i := 181) (by decide +kernel), List.mem_of_getElem? (i := 463) (by decide +kernel), List.mem_of_getElem? (i := 464) (by decide +kernel)⟩
theorem lw_p4 : lw_okq (⟨"Stavehouse", "copiesOut", "()I"⟩, 7) := ⟨⟨by decide +kernel, by decide +kernel⟩, List.mem_of_getElem? (i := 18) (by decide +kernel), List.mem_of_getElem? (i := 468) (by decide +kernel), List.mem_of_getElem? (i := 469) (by decide +kernel)⟩
theorem lw_p5 : lw_okq (⟨"Stavehouse", "needCopyOut", "(I)LStavehouse$Copy;"⟩, 7) := ⟨⟨by decide +kernel, by decide +kernel⟩, List.mem_of_getElem? (i := 18) (by decide +kernel), List.mem_of_getElem? (i := 479) (by decide +kernel), List.mem_of_getElem? (i := 480) (by decide +kernel)⟩
theorem lw_p6 : lw_okq (⟨"Stavehouse", "anyCopyOwes", "()Z"⟩, 7) := ⟨⟨by decide +kernel, by decide +kernel⟩, List.mem_of_getElem? (i := 18) (by decide +kernel), List.mem_of_getElem? (i := 546) (by decide +kernel), List.mem_of_getElem? (i := 547) (by decide +kernel)⟩
theorem lw_p7 : lw_okq (⟨"Stavehouse", "openBook", "(I)V"⟩, 7) := ⟨⟨by decide +kernel, by decide +kernel⟩, List.mem_of_getElem? (i := 18) (by decide +kernel), List.mem_of_getElem? (i := 602) (by decide +kernel), List.mem_of_getElem? (i := 603) (by decide +kernel)⟩
theorem lw_p8 : lw_okq (⟨"Stavehouse$Book", "drawerOf", "(I)I"⟩, 9) := ⟨⟨by decide +kernel, by decide +kernel⟩, List.mem_of_getElem? (i := 66) (by decide +kernel), List.mem_of_getElem? (i := 610) (by decide +kernel), List.mem_of_getElem? (i := 611) (by decide +kernel)⟩
theorem lw_p9 : lw_okq (⟨"Stavehouse$Book", "addItem", "(II)V"⟩, 9) := ⟨⟨by decide +kernel, by decide +kernel⟩, List.mem_of_getElem? (i := 66) (by decide +kernel), List.mem_of_getElem? (i := 625) (by decide +kernel), List.mem_of_getElem? (i := 626) (by decide +kernel)⟩
theorem lw_p10 : lw_okq (⟨"Stavehouse$Springs", "addSpring", "(III)V"⟩, 5) := ⟨⟨by decide +kernel, by decide +kernel⟩, List.mem_of_getElem? (i := 72) (by decide +kernel), List.mem_of_getElem? (i := 633) (by decide +kernel), List.mem_of_getElem? (i := 634) (by decide +kernel)⟩
theorem lw_p11 : lw_okq (⟨"Stavehouse$Springs", "addPlaces", "(LStavehouse$Score;II)V"⟩, 5) := ⟨⟨by decide +kernel, by decide +kernel⟩, List.mem_of_getElem? (i := 72) (by decide +kernel), List.mem_of_getElem? (i := 641) (by decide +kernel), List.mem_of_getElem? (i := 642) (by decide +kernel)⟩
theorem lw_p12 : lw_okq (⟨"Stavehouse$Springs", "addPlace", "(IZ)V"⟩, 5) := ⟨⟨by decide +kernel, by decide +kernel⟩, List.mem_of_getElem? (i := 72) (by decide +kernel), List.mem_of_getElem? (i := 646) (by decide +kernel), List.mem_of_getElem? (i := 647) (by decide +kernel)⟩
theorem lw_p13 : lw_okq (⟨"Stavehouse$Springs", "addSprings", "(I)V"⟩, 5) := ⟨⟨by decide +kernel, by decide +kernel⟩, List.mem_of_getElem? (i := 72) (by decide +kernel), List.mem_of_getElem? (i := 651) (by decide +kernel), List.mem_of_getElem? (i := 652) (by decide +kernel)⟩
theorem lw_p14 : lw_okq (⟨"Stavehouse$Springs", "nextPlace", "(II)I"⟩, 5) := ⟨⟨by decide +kernel, by decide +kernel⟩, List.mem_of_getElem? (i := 72) (by decide +kernel), List.mem_of_getElem? (i := 655) (by decide +kernel), List.mem_of_getElem? (i := 656) (by decide +kernel)⟩
theorem lw_p15 : lw_okq (⟨"Stavehouse", "breakBook", "(I)V"⟩, 7) := ⟨⟨by decide +kernel, by decide +kernel⟩, List.mem_of_getElem? (i := 18) (by decide +kernel), List.mem_of_getElem? (i := 706) (by decide +kernel), List.mem_of_getElem? (i := 707) (by decide +kernel)⟩
def lw_privs_1 : List (MethodName × Nat) := [(⟨"java/lang/Throwable", "fillInStackTrace", "(I)Ljava/lang/Throwable;"⟩, 6), (⟨"Stavehouse", "needSlot", "(II)I"⟩, 7), (⟨"Stavehouse", "deskHasPart", "(II)Z"⟩, 7), (⟨"Stavehouse$Copy", "scoreVersion", "(I)I"⟩, 4), (⟨"Stavehouse", "copiesOut", "()I"⟩, 7), (⟨"Stavehouse", "needCopyOut", "(I)LStavehouse$Copy;"⟩, 7), (⟨"Stavehouse", "anyCopyOwes", "()Z"⟩, 7), (⟨"Stavehouse", "openBook", "(I)V"⟩, 7), (⟨"Stavehouse$Book", "drawerOf", "(I)I"⟩, 9), (⟨"Stavehouse$Book", "addItem", "(II)V"⟩, 9), (⟨"Stavehouse$Springs", "addSpring", "(III)V"⟩, 5), (⟨"Stavehouse$Springs", "addPlaces", "(LStavehouse$Score;II)V"⟩, 5), (⟨"Stavehouse$Springs", "addPlace", "(IZ)V"⟩, 5), (⟨"Stavehouse$Springs", "addSprings", "(I)V"⟩, 5), (⟨"Stavehouse$Springs", "nextPlace", "(II)I"⟩, 5), (⟨"Stavehouse", "breakBook", "(I)V"⟩, 7)]
theorem lw_r1 : ∀ q ∈ lw_privs_1, lw_okq q := List.forall_mem_cons.mpr ⟨lw_p0, List.forall_mem_cons.mpr ⟨lw_p1, List.forall_mem_cons.mpr ⟨lw_p2, List.forall_mem_cons.mpr ⟨lw_p3, List.forall_mem_cons.mpr ⟨lw_p4, List.forall_mem_cons.mpr ⟨lw_p5, List.forall_mem_cons.mpr ⟨lw_p6, List.forall_mem_cons.mpr ⟨lw_p7, List.forall_mem_cons.mpr ⟨lw_p8, List.forall_mem_cons.mpr ⟨lw_p9, List.forall_mem_cons.mpr ⟨lw_p10, List.forall_mem_cons.mpr ⟨lw_p11, List.forall_mem_cons.mpr ⟨lw_p12, List.forall_mem_cons.mpr ⟨lw_p13, List.forall_mem_cons.mpr ⟨lw_p14, List.forall_mem_cons.mpr ⟨lw_p15, fun _ h => absurd h List.not_mem_nil⟩⟩⟩⟩⟩⟩⟩⟩⟩⟩⟩⟩⟩⟩⟩⟩
theorem lw_p16 : lw_okq (⟨"Stavehouse$Paper", "priceTurns", "()V"⟩, 11) := ⟨⟨by decide +kernel, by decide +kernel⟩, List.mem_of_getElem? (i := 133) (by decide +kernel), List.mem_of_getElem? (i := 714) (by decide +kernel), List.mem_of_getElem? (i := 715) (by decide +kernel)⟩
theorem lw_p17 : lw_okq (⟨"Stavehouse$Score", "silenceAtEnd", "(II)I"⟩, 7) := ⟨⟨by decide +kernel, by decide +kernel⟩, List.mem_of_getElem? (i := 26) (by decide +kernel), List.mem_of_getElem? (i := 723) (by decide +kernel), List.mem_of_getElem? (i := 724) (by decide +kernel)⟩
theorem lw_p18 : lw_okq (⟨"Stavehouse$Score", "silenceAtBeginning", "(II)I"⟩, 7) := ⟨⟨by decide +kernel, by decide +kernel⟩, List.mem_of_getElem? (i := 26) (by decide +kernel), List.mem_of_getElem? (i := 727) (by decide +kernel), List.mem_of_getElem? (i := 728) (by decide +kernel)⟩
theorem lw_p19 : lw_okq (⟨"Stavehouse$Paper", "chooseLine", "(II)V"⟩, 11) := ⟨⟨by decide +kernel, by decide +kernel⟩, List.mem_of_getElem? (i := 133) (by decide +kernel), List.mem_of_getElem? (i := 732) (by decide +kernel), List.mem_of_getElem? (i := 733) (by decide +kernel)⟩
theorem lw_p20 : lw_okq (⟨"Stavehouse$Paper", "nextOnPage", "(I)I"⟩, 11) := ⟨⟨by decide +kernel, by decide +kernel⟩, List.mem_of_getElem? (i := 133) (by decide +kernel), List.mem_of_getElem? (i := 736) (by decide +kernel), List.mem_of_getElem? (i := 737) (by decide +kernel)⟩
theorem lw_p21 : lw_okq (⟨"Stavehouse$Paper", "mayBeLine", "(II)Z"⟩, 11) := ⟨⟨by decide +kernel, by decide +kernel⟩, List.mem_of_getElem? (i := 133) (by decide +kernel), List.mem_of_getElem? (i := 741) (by decide +kernel), List.mem_of_getElem? (i := 742) (by decide +kernel)⟩
theorem lw_p22 : lw_okq (⟨"Stavehouse$Paper", "badness", "(II)I"⟩, 11) := ⟨⟨by decide +kernel, by decide +kernel⟩, List.mem_of_getElem? (i := 133) (by decide +kernel), List.mem_of_getElem? (i := 749) (by decide +kernel), List.mem_of_getElem? (i := 750) (by decide +kernel)⟩
theorem lw_p23 : lw_okq (⟨"Stavehouse$Paper", "turnAhead", "(II)I"⟩, 11) := ⟨⟨by decide +kernel, by decide +kernel⟩, List.mem_of_getElem? (i := 133) (by decide +kernel), List.mem_of_getElem? (i := 754) (by decide +kernel), List.mem_of_getElem? (i := 755) (by decide +kernel)⟩
theorem lw_p24 : lw_okq (⟨"Stavehouse$Paper", "setLines", "()V"⟩, 11) := ⟨⟨by decide +kernel, by decide +kernel⟩, List.mem_of_getElem? (i := 133) (by decide +kernel), List.mem_of_getElem? (i := 758) (by decide +kernel), List.mem_of_getElem? (i := 759) (by decide +kernel)⟩
theorem lw_p25 : lw_okq (⟨"Stavehouse$Paper", "leastOfAllWays", "(III)I"⟩, 11) := ⟨⟨by decide +kernel, by decide +kernel⟩, List.mem_of_getElem? (i := 133) (by decide +kernel), List.mem_of_getElem? (i := 791) (by decide +kernel), List.mem_of_getElem? (i := 792) (by decide +kernel)⟩
theorem lw_p26 : lw_okq (⟨"Stavehouse$Paper", "shrunkAhead", "(IIII)I"⟩, 11) := ⟨⟨by decide +kernel, by decide +kernel⟩, List.mem_of_getElem? (i := 133) (by decide +kernel), List.mem_of_getElem? (i := 825) (by decide +kernel), List.mem_of_getElem? (i := 826) (by decide +kernel)⟩
theorem lw_p27 : lw_okq (⟨"Stavehouse$Paper", "stretchedAhead", "(IIII)I"⟩, 11) := ⟨⟨by decide +kernel, by decide +kernel⟩, List.mem_of_getElem? (i := 133) (by decide +kernel), List.mem_of_getElem? (i := 829) (by decide +kernel), List.mem_of_getElem? (i := 830) (by decide +kernel)⟩
theorem lw_p28 : lw_okq (⟨"Stavehouse", "clashesAt", "(LStavehouse$Desk;LStavehouse$Desk;I)I"⟩, 7) := ⟨⟨by decide +kernel, by decide +kernel⟩, List.mem_of_getElem? (i := 18) (by decide +kernel), List.mem_of_getElem? (i := 879) (by decide +kernel), List.mem_of_getElem? (i := 880) (by decide +kernel)⟩
theorem lw_p29 : lw_okq (⟨"StavehouseModel", "goes", "(ZZZ)Z"⟩, 34) := ⟨⟨by decide +kernel, by decide +kernel⟩, List.mem_of_getElem? (i := 884) (by decide +kernel), List.mem_of_getElem? (i := 1004) (by decide +kernel), List.mem_of_getElem? (i := 1005) (by decide +kernel)⟩
theorem lw_p30 : lw_okq (⟨"StavehouseModel", "isBar", "(I)Z"⟩, 34) := ⟨⟨by decide +kernel, by decide +kernel⟩, List.mem_of_getElem? (i := 884) (by decide +kernel), List.mem_of_getElem? (i := 1015) (by decide +kernel), List.mem_of_getElem? (i := 1016) (by decide +kernel)⟩
theorem lw_p31 : lw_okq (⟨"StavehouseModel", "filled", "(II)I"⟩, 34) := ⟨⟨by decide +kernel, by decide +kernel⟩, List.mem_of_getElem? (i := 884) (by decide +kernel), List.mem_of_getElem? (i := 1022) (by decide +kernel), List.mem_of_getElem? (i := 1023) (by decide +kernel)⟩
def lw_privs_2 : List (MethodName × Nat) := [(⟨"Stavehouse$Paper", "priceTurns", "()V"⟩, 11), (⟨"Stavehouse$Score", "silenceAtEnd", "(II)I"⟩, 7), (⟨"Stavehouse$Score", "silenceAtBeginning", "(II)I"⟩, 7), (⟨"Stavehouse$Paper", "chooseLine", "(II)V"⟩, 11), (⟨"Stavehouse$Paper", "nextOnPage", "(I)I"⟩, 11), (⟨"Stavehouse$Paper", "mayBeLine", "(II)Z"⟩, 11), (⟨"Stavehouse$Paper", "badness", "(II)I"⟩, 11), (⟨"Stavehouse$Paper", "turnAhead", "(II)I"⟩, 11), (⟨"Stavehouse$Paper", "setLines", "()V"⟩, 11), (⟨"Stavehouse$Paper", "leastOfAllWays", "(III)I"⟩, 11), (⟨"Stavehouse$Paper", "shrunkAhead", "(IIII)I"⟩, 11), (⟨"Stavehouse$Paper", "stretchedAhead", "(IIII)I"⟩, 11), (⟨"Stavehouse", "clashesAt", "(LStavehouse$Desk;LStavehouse$Desk;I)I"⟩, 7), (⟨"StavehouseModel", "goes", "(ZZZ)Z"⟩, 34), (⟨"StavehouseModel", "isBar", "(I)Z"⟩, 34), (⟨"StavehouseModel", "filled", "(II)I"⟩, 34)]
theorem lw_r2 : ∀ q ∈ lw_privs_2, lw_okq q := List.forall_mem_cons.mpr ⟨lw_p16, List.forall_mem_cons.mpr ⟨lw_p17, List.forall_mem_cons.mpr ⟨lw_p18, List.forall_mem_cons.mpr ⟨lw_p19, List.forall_mem_cons.mpr ⟨lw_p20, List.forall_mem_cons.mpr ⟨lw_p21, List.forall_mem_cons.mpr ⟨lw_p22, List.forall_mem_cons.mpr ⟨lw_p23, List.forall_mem_cons.mpr ⟨lw_p24, List.forall_mem_cons.mpr ⟨lw_p25, List.forall_mem_cons.mpr ⟨lw_p26, List.forall_mem_cons.mpr ⟨lw_p27, List.forall_mem_cons.mpr ⟨lw_p28, List.forall_mem_cons.mpr ⟨lw_p29, List.forall_mem_cons.mpr ⟨lw_p30, List.forall_mem_cons.mpr ⟨lw_p31, fun _ h => absurd h List.not_mem_nil⟩⟩⟩⟩⟩⟩⟩⟩⟩⟩⟩⟩⟩⟩⟩⟩
theorem lw_p32 : lw_okq (⟨"StavehouseModel", "isNote", "(III)Z"⟩, 34) := ⟨⟨by decide +kernel, by decide +kernel⟩, List.mem_of_getElem? (i := 884) (by decide +kernel), List.mem_of_getElem? (i := 1030) (by decide +kernel), List.mem_of_getElem? (i := 1031) (by decide +kernel)⟩
theorem lw_p33 : lw_okq (⟨"StavehouseModel", "isCopy", "(I)Z"⟩, 34) := ⟨⟨by decide +kernel, by decide +kernel⟩, List.mem_of_getElem? (i := 884) (by decide +kernel), List.mem_of_getElem? (i := 1050) (by decide +kernel), List.mem_of_getElem? (i := 1051) (by decide +kernel)⟩
theorem lw_p34 : lw_okq (⟨"StavehouseModel", "renews", "(I)V"⟩, 34) := ⟨⟨by decide +kernel, by decide +kernel⟩, List.mem_of_getElem? (i := 884) (by decide +kernel), List.mem_of_getElem? (i := 1054) (by decide +kernel), List.mem_of_getElem? (i := 1055) (by decide +kernel)⟩
theorem lw_p35 : lw_okq (⟨"StavehouseModel", "away", "()I"⟩, 34) := ⟨⟨by decide +kernel, by decide +kernel⟩, List.mem_of_getElem? (i := 884) (by decide +kernel), List.mem_of_getElem? (i := 1058) (by decide +kernel), List.mem_of_getElem? (i := 1059) (by decide +kernel)⟩
theorem lw_p36 : lw_okq (⟨"StavehouseModel", "isAway", "(I)Z"⟩, 34) := ⟨⟨by decide +kernel, by decide +kernel⟩, List.mem_of_getElem? (i := 884) (by decide +kernel), List.mem_of_getElem? (i := 1066) (by decide +kernel), List.mem_of_getElem? (i := 1067) (by decide +kernel)⟩
theorem lw_p37 : lw_okq (⟨"StavehouseModel", "owedBy", "(I)I"⟩, 34) := ⟨⟨by decide +kernel, by decide +kernel⟩, List.mem_of_getElem? (i := 884) (by decide +kernel), List.mem_of_getElem? (i := 1070) (by decide +kernel), List.mem_of_getElem? (i := 1071) (by decide +kernel)⟩
theorem lw_p38 : lw_okq (⟨"StavehouseModel", "owes", "(II)Z"⟩, 34) := ⟨⟨by decide +kernel, by decide +kernel⟩, List.mem_of_getElem? (i := 884) (by decide +kernel), List.mem_of_getElem? (i := 1074) (by decide +kernel), List.mem_of_getElem? (i := 1075) (by decide +kernel)⟩
theorem lw_p39 : lw_okq (⟨"StavehouseModel", "bowing", "(III)I"⟩, 34) := ⟨⟨by decide +kernel, by decide +kernel⟩, List.mem_of_getElem? (i := 884) (by decide +kernel), List.mem_of_getElem? (i := 1090) (by decide +kernel), List.mem_of_getElem? (i := 1091) (by decide +kernel)⟩
theorem lw_p40 : lw_okq (⟨"StavehouseModel", "laysItems", "(I)V"⟩, 34) := ⟨⟨by decide +kernel, by decide +kernel⟩, List.mem_of_getElem? (i := 884) (by decide +kernel), List.mem_of_getElem? (i := 1130) (by decide +kernel), List.mem_of_getElem? (i := 1131) (by decide +kernel)⟩
theorem lw_p41 : lw_okq (⟨"StavehouseModel", "isSilent", "(II)Z"⟩, 34) := ⟨⟨by decide +kernel, by decide +kernel⟩, List.mem_of_getElem? (i := 884) (by decide +kernel), List.mem_of_getElem? (i := 1134) (by decide +kernel), List.mem_of_getElem? (i := 1135) (by decide +kernel)⟩
theorem lw_p42 : lw_okq (⟨"StavehouseModel", "adds", "(III)V"⟩, 34) := ⟨⟨by decide +kernel, by decide +kernel⟩, List.mem_of_getElem? (i := 884) (by decide +kernel), List.mem_of_getElem? (i := 1138) (by decide +kernel), List.mem_of_getElem? (i := 1139) (by decide +kernel)⟩
theorem lw_p43 : lw_okq (⟨"StavehouseModel", "cueFor", "(II)I"⟩, 34) := ⟨⟨by decide +kernel, by decide +kernel⟩, List.mem_of_getElem? (i := 884) (by decide +kernel), List.mem_of_getElem? (i := 1142) (by decide +kernel), List.mem_of_getElem? (i := 1143) (by decide +kernel)⟩
theorem lw_p44 : lw_okq (⟨"StavehouseModel", "itemWith", "(I)I"⟩, 34) := ⟨⟨by decide +kernel, by decide +kernel⟩, List.mem_of_getElem? (i := 884) (by decide +kernel), List.mem_of_getElem? (i := 1150) (by decide +kernel), List.mem_of_getElem? (i := 1151) (by decide +kernel)⟩
theorem lw_p45 : lw_okq (⟨"StavehouseModel", "lays", "(I)V"⟩, 34) := ⟨⟨by decide +kernel, by decide +kernel⟩, List.mem_of_getElem? (i := 884) (by decide +kernel), List.mem_of_getElem? (i := 1162) (by decide +kernel), List.mem_of_getElem? (i := 1163) (by decide +kernel)⟩
theorem lw_p46 : lw_okq (⟨"StavehouseModel", "laysSprings", "()V"⟩, 34) := ⟨⟨by decide +kernel, by decide +kernel⟩, List.mem_of_getElem? (i := 884) (by decide +kernel), List.mem_of_getElem? (i := 1166) (by decide +kernel), List.mem_of_getElem? (i := 1167) (by decide +kernel)⟩
theorem lw_p47 : lw_okq (⟨"StavehouseModel", "begins", "(III)I"⟩, 34) := ⟨⟨by decide +kernel, by decide +kernel⟩, List.mem_of_getElem? (i := 884) (by decide +kernel), List.mem_of_getElem? (i := 1170) (by decide +kernel), List.mem_of_getElem? (i := 1171) (by decide +kernel)⟩
def lw_privs_3 : List (MethodName × Nat) := [(⟨"StavehouseModel", "isNote", "(III)Z"⟩, 34), (⟨"StavehouseModel", "isCopy", "(I)Z"⟩, 34), (⟨"StavehouseModel", "renews", "(I)V"⟩, 34), (⟨"StavehouseModel", "away", "()I"⟩, 34), (⟨"StavehouseModel", "isAway", "(I)Z"⟩, 34), (⟨"StavehouseModel", "owedBy", "(I)I"⟩, 34), (⟨"StavehouseModel", "owes", "(II)Z"⟩, 34), (⟨"StavehouseModel", "bowing", "(III)I"⟩, 34), (⟨"StavehouseModel", "laysItems", "(I)V"⟩, 34), (⟨"StavehouseModel", "isSilent", "(II)Z"⟩, 34), (⟨"StavehouseModel", "adds", "(III)V"⟩, 34), (⟨"StavehouseModel", "cueFor", "(II)I"⟩, 34), (⟨"StavehouseModel", "itemWith", "(I)I"⟩, 34), (⟨"StavehouseModel", "lays", "(I)V"⟩, 34), (⟨"StavehouseModel", "laysSprings", "()V"⟩, 34), (⟨"StavehouseModel", "begins", "(III)I"⟩, 34)]
theorem lw_r3 : ∀ q ∈ lw_privs_3, lw_okq q := List.forall_mem_cons.mpr ⟨lw_p32, List.forall_mem_cons.mpr ⟨lw_p33, List.forall_mem_cons.mpr ⟨lw_p34, List.forall_mem_cons.mpr ⟨lw_p35, List.forall_mem_cons.mpr ⟨lw_p36, List.forall_mem_cons.mpr ⟨lw_p37, List.forall_mem_cons.mpr ⟨lw_p38, List.forall_mem_cons.mpr ⟨lw_p39, List.forall_mem_cons.mpr ⟨lw_p40, List.forall_mem_cons.mpr ⟨lw_p41, List.forall_mem_cons.mpr ⟨lw_p42, List.forall_mem_cons.mpr ⟨lw_p43, List.forall_mem_cons.mpr ⟨lw_p44, List.forall_mem_cons.mpr ⟨lw_p45, List.forall_mem_cons.mpr ⟨lw_p46, List.forall_mem_cons.mpr ⟨lw_p47, fun _ h => absurd h List.not_mem_nil⟩⟩⟩⟩⟩⟩⟩⟩⟩⟩⟩⟩⟩⟩⟩⟩
theorem lw_p48 : lw_okq (⟨"StavehouseModel", "breaks", "(I)V"⟩, 34) := ⟨⟨by decide +kernel, by decide +kernel⟩, List.mem_of_getElem? (i := 884) (by decide +kernel), List.mem_of_getElem? (i := 1177) (by decide +kernel), List.mem_of_getElem? (i := 1178) (by decide +kernel)⟩
theorem lw_p49 : lw_okq (⟨"StavehouseModel", "badness", "(IZ)I"⟩, 34) := ⟨⟨by decide +kernel, by decide +kernel⟩, List.mem_of_getElem? (i := 884) (by decide +kernel), List.mem_of_getElem? (i := 1181) (by decide +kernel), List.mem_of_getElem? (i := 1182) (by decide +kernel)⟩
theorem lw_p50 : lw_okq (⟨"StavehouseModel", "turnCost", "(II)I"⟩, 34) := ⟨⟨by decide +kernel, by decide +kernel⟩, List.mem_of_getElem? (i := 884) (by decide +kernel), List.mem_of_getElem? (i := 1185) (by decide +kernel), List.mem_of_getElem? (i := 1186) (by decide +kernel)⟩
theorem lw_p51 : lw_okq (⟨"StavehouseModel", "silentTo", "(II)I"⟩, 34) := ⟨⟨by decide +kernel, by decide +kernel⟩, List.mem_of_getElem? (i := 884) (by decide +kernel), List.mem_of_getElem? (i := 1189) (by decide +kernel), List.mem_of_getElem? (i := 1190) (by decide +kernel)⟩
theorem lw_p52 : lw_okq (⟨"StavehouseModel", "silentFrom", "(II)I"⟩, 34) := ⟨⟨by decide +kernel, by decide +kernel⟩, List.mem_of_getElem? (i := 884) (by decide +kernel), List.mem_of_getElem? (i := 1193) (by decide +kernel), List.mem_of_getElem? (i := 1194) (by decide +kernel)⟩
theorem lw_p53 : lw_okq (⟨"StavehouseModel", "springAt", "(II)I"⟩, 34) := ⟨⟨by decide +kernel, by decide +kernel⟩, List.mem_of_getElem? (i := 884) (by decide +kernel), List.mem_of_getElem? (i := 1222) (by decide +kernel), List.mem_of_getElem? (i := 1223) (by decide +kernel)⟩
theorem lw_p54 : lw_okq (⟨"StavehouseModel", "placeOf", "(II)I"⟩, 34) := ⟨⟨by decide +kernel, by decide +kernel⟩, List.mem_of_getElem? (i := 884) (by decide +kernel), List.mem_of_getElem? (i := 1226) (by decide +kernel), List.mem_of_getElem? (i := 1227) (by decide +kernel)⟩
def lw_privs_4 : List (MethodName × Nat) := [(⟨"StavehouseModel", "breaks", "(I)V"⟩, 34), (⟨"StavehouseModel", "badness", "(IZ)I"⟩, 34), (⟨"StavehouseModel", "turnCost", "(II)I"⟩, 34), (⟨"StavehouseModel", "silentTo", "(II)I"⟩, 34), (⟨"StavehouseModel", "silentFrom", "(II)I"⟩, 34), (⟨"StavehouseModel", "springAt", "(II)I"⟩, 34), (⟨"StavehouseModel", "placeOf", "(II)I"⟩, 34)]
theorem lw_r4 : ∀ q ∈ lw_privs_4, lw_okq q := List.forall_mem_cons.mpr ⟨lw_p48, List.forall_mem_cons.mpr ⟨lw_p49, List.forall_mem_cons.mpr ⟨lw_p50, List.forall_mem_cons.mpr ⟨lw_p51, List.forall_mem_cons.mpr ⟨lw_p52, List.forall_mem_cons.mpr ⟨lw_p53, List.forall_mem_cons.mpr ⟨lw_p54, fun _ h => absurd h List.not_mem_nil⟩⟩⟩⟩⟩⟩⟩
def lw_privs : List (MethodName × Nat) := lw_privs_1 ++ (lw_privs_2 ++ (lw_privs_3 ++ (lw_privs_4)))
def lw_tbl : List Cond := k2_sels lw_privs ++ tables_1
theorem lw_privs_ok : ∀ q ∈ lw_privs, lw_okq q := by
  show ∀ q ∈ lw_privs_1 ++ (lw_privs_2 ++ (lw_privs_3 ++ (lw_privs_4))), lw_okq q
  exact List.forall_mem_append.mpr ⟨lw_r1, List.forall_mem_append.mpr ⟨lw_r2, List.forall_mem_append.mpr ⟨lw_r3, lw_r4⟩⟩⟩
-- ===== end of PART A; then your names; then what follows =====
end
section
/-! ===== BEGIN words of one list among another's, by their places ===== -/
theorem goodIn_r {big : List Cond} (ws : List Cond) (ps : List Nat) (hp : ws = ps.filterMap (fun i => big[i]?)) (h : ws.all goodWord = true) : GoodIn big ws := by
  intro w hw
  have h1 := List.all_eq_true.mp h w hw
  rw [hp] at hw
  obtain ⟨i, -, hi⟩ := List.mem_filterMap.mp hw
  have hm : w ∈ big := by first | exact List.mem_of_getElem? hi | exact List.getElem?_mem hi
  exact ⟨hm, good_of_word h1⟩
theorem goodIn_app {big a b : List Cond} (ha : GoodIn big a) (hb : GoodIn big b) : GoodIn big (a ++ b) := fun w h => (List.mem_append.mp h).elim (ha w) (hb w)
theorem goodIn_ca {big a b : List Cond} {c : Cond} (ha : GoodIn big (c :: a)) (hb : GoodIn big b) : GoodIn big (c :: (a ++ b)) := fun w h => (List.mem_cons.mp h).elim (fun e => ha w (List.mem_cons.mpr (Or.inl e))) (fun h => (List.mem_append.mp h).elim (fun h => ha w (List.mem_cons.mpr (Or.inr h))) (hb w))
theorem goodIn_sub {big ws : List Cond} (hm : ∀ w ∈ ws, w ∈ big) (h : ws.all goodWord = true) : GoodIn big ws := fun w hw => ⟨hm w hw, good_of_word (List.all_eq_true.mp h w hw)⟩
/-! ===== END ===== -/

/-! ===== BEGIN exceptions that leave a method, and their catching by the caller (launches without stack traces) ===== -/
section VXA
/-! The laws vx_back, vx_callV, vx_callS, vx_callSW, vx_throw0, vx_throwS follow proofs of the library, with one case more: JvmDerived/Free/Laws.lean (Back.of_free), Shelf42/LK1.lean (callV, callS), Shelf/KitTraced.lean (throwNew0V, throwNewS). -/
/-- where a method has thrown q: the class by its name, the cell, what was written, the world -/
def vx_T (XC : String → State → State → Prop) (st : State) (q : Addr) (t : State) (mc ms : Nat) (free : Addr → Prop) : Prop :=
  ∃ (E : String) (ce : Cell) (L : List Loc), XC E st t ∧ t.heap[q]? = some ce ∧ ce.vm = .none ∧ st.vm.findClass E = some ce.cls ∧ st.WarmedH t.vm ∧ st.sameButNew ({ t with vm := st.vm } : State) L mc ms ∧ ∀ z ∈ L, free z.base
def vx_Q (Qc : Array Value → State → Outcome → State → Prop) (XC : String → State → State → Prop) (mc ms : Nat) (free : Addr → Prop) : Array Value → State → Outcome → State → Prop := fun a st o t =>
  (Qc a st o t ∧ ∃ L, FrameEnd st o t L mc ms ∧ ∀ q ∈ L, free q.base) ∨ ∃ q, o = .threw q ∧ vx_T XC st q t mc ms free
/-- a callee that returns or throws -/
def vx_Met (l : Launch) (y : MethodName) (ws : List Cond) (rm : Room) (Pc : Array Value → State → Prop) (Qc : Array Value → State → Outcome → State → Prop) (XC : String → State → State → Prop) (mc ms : Nat) (free : Addr → Prop) : Prop :=
  MetFree l y (headSpec ws rm) Pc (fun _ _ _ _ _ => True) (vx_Q Qc XC mc ms free)
def vx_Post (XC : String → State → State → Prop) (mc ms : Nat) (free : Addr → Prop) : Pt → Array Value → Addr → Pt → Prop := fun A a q B =>
  ∃ (g : JFrame) (mk : MethodId) (t : State) (L : List Loc) (E : String) (ce : Cell), B.U.heap = t.heap ∧ B.U.vm = t.vm ∧ XC E (A.U.calling g mk a) t ∧ t.heap[q]? = some ce ∧ ce.vm = .none ∧ A.U.vm.findClass E = some ce.cls ∧ B.locs = A.locs ++ L ∧ (∀ z ∈ L, free z.base) ∧ B.cells = A.cells + mc ∧ B.slots = A.slots + ms
def vx_Back (l : Launch) (R : Room) (p : Program) (e : Env) (below : List Frame) (s : State) (sargs : Array Value) (y : MethodName) (len W9 : Nat)
    (Pre : Pt → Array Value → Prop) (Post : Pt → Array Value → Option Value → Pt → Prop) (PostX : Pt → Array Value → Addr → Pt → Prop) : Prop :=
  ∀ (m : MethodId) (meth : Method) (c : Code) (A : Pt) (g : JFrame) (ig : Instr) (mk : MethodId) (a : Array Value),
    Stand p l e R s m sargs below meth c A.U A.locs A.cells A.slots → g.method = m → g.locals.size = c.maxLocals → decode c.code g.pc = .ok (ig, len) →
    2 * g.monitorRoom + (g.stack.map fun v => v.category).sum ≤ W9 → A.U.methodNamed? y = some mk → Pre A a →
    (∃ (v : Option Value) (B : Pt), Stand p l e R s m sargs below meth c B.U B.locs B.cells B.slots ∧ Post A a v B ∧
      Steps p.tables e below (doInvoke e (A.U.setTop g) [] mk a).1 (B.U.setTop { g with pc := g.pc + len, stack := v.toList ++ g.stack })) ∨
    (∃ (q : Addr) (B : Pt), Stand p l e R s m sargs below meth c B.U B.locs B.cells B.slots ∧ PostX A a q B ∧
      Steps p.tables e below (doInvoke e (A.U.setTop g) [] mk a).1 ((B.U.setTop g).pushFrame (.throwing q)))
section Payer
variable {l : Launch} {R : Room} {p : Program} {e : Env} {below : List Frame} {s : State} {sargs : Array Value} {y : MethodName} {len W9 : Nat}
theorem vx_back {ws : List Cond} {rm : Room} {Pc : Array Value → State → Prop} {Qc : Array Value → State → Outcome → State → Prop} {XC : String → State → State → Prop} {mc ms : Nat} {free : Addr → Prop} {bytes : ByteArray} {maxL : Nat} {ret : Option FieldType}
    (hM : vx_Met l y ws rm Pc Qc XC mc ms free) (hblind : FrameBlind Pc) (hrc : rm.cells = mc) (hrs : rm.slots = ms)
    (hframes : rm.frames + 1 ≤ R.frames) (hlocals : W9 + (maxL + 11) + rm.locals ≤ R.locals)
    (hws : ∀ w ∈ ws, ∀ a' U, s.WarmedH U.vm → w.before a' U = true) (hcode : Cond.code y bytes maxL ret ∈ ws) (hinit : ∀ a' U, s.WarmedH U.vm → (Cond.initialized y.cls).before a' U = true) :
    vx_Back l R p e below s sargs y len W9 (PreOf R mc ms Pc) (PostOf Qc mc ms free) (vx_Post XC mc ms free) := by
  intro m meth c A g ig mk a X hg hsize hdg hW hn hp
  have h1 : (headSpec ws rm).pre.before a A.U = true := atoms_intro fun w hw => hws w hw _ _ X.warmed
  have h2 : (Cond.code y bytes maxL ret).before a A.U = true := hws _ hcode _ _ X.warmed
  have h3 : (Cond.initialized y.cls).before a A.U = true := hinit _ _ X.warmed
  have h4 : A.cells + (headSpec ws rm).room.cells ≤ R.cells := by rw [show (headSpec ws rm).room.cells = mc from hrc]; exact hp.1
  have h5 : A.slots + (headSpec ws rm).room.slots ≤ R.slots := by rw [show (headSpec ws rm).room.slots = ms from hrs]; exact hp.2.1
  have hPc : Pc a (A.U.calling g mk a) := hblind _ _ _ _ hp.2.2
  obtain ⟨U, Ls, c0, s0⟩ := A
  dsimp only [Pt.U, Pt.locs, Pt.cells, Pt.slots] at h1 h2 h3 h4 h5 X hn hPc ⊢
  obtain ⟨methY, cY, hmY, hcY, -, hlY, -, -, -, -⟩ := Cond.code_spec hn h2
  obtain ⟨kY, hkY, -⟩ := className_of_methodNamed hn
  have hinitY : kY.init = .initialized := Cond.initialized_spec (findClass_of_methodNamed hn) hkY h3
  have h : At U g.method c below := by rw [hg]; exact X.here
  have hlocals9 : W9 + (maxL + 11) + (headSpec ws rm).room.locals ≤ R.locals := hlocals
  have happ : (headSpec ws rm).appliesLoose y e.platform (U.calling g mk a) = true :=
    Spec.appliesLoose_calling (g := g) h hdg hn hkY hinitY
      (X.room_calling (g := g) (R' := (headSpec ws rm).room) hsize hmY hcY hframes (by rw [hlY]; omega) h4 h5) h1
  obtain ⟨mid, hmid⟩ := h.above
  have hfr : (U.setTop g).frames = (.java g :: mid) ++ below := by rw [State.frames_setTop' g h.top, hmid]; rfl
  obtain ⟨o, s₂, hsteps, -, hend, hq⟩ := Steps.callFree hM p X.admits X.cas X.clock (acts := []) hfr happ hPc trivial
  have hq' : vx_Q Qc XC mc ms free a (U.calling g mk a) o s₂ := hq
  rw [State.frames_setTop' g h.top] at hend
  obtain ⟨g₀, hg0⟩ := Option.isSome_iff_exists.mp h.top
  obtain ⟨r, hr⟩ := State.topJava?_eq_some.mp hg0
  have hr' : (({ U with heap := s₂.heap, slotsUsed := s₂.slotsUsed } : State).setVm s₂.vm).frames = .java g₀ :: r := hr
  rcases hq' with ⟨hqc, L, hfe, hL⟩ | ⟨q, rfl, E, ce, L, hx, hce, hcv, hcl, hW₂, hsm, hL⟩
  · obtain ⟨⟨v, rfl⟩, hW₂, e2, q2, q3, q4, q5, q6⟩ := id hfe
    have e3 : s₂ = ({ (U.calling g mk a).setFrames s₂.frames with heap := s₂.heap, slotsUsed := s₂.slotsUsed } : State).setVm s₂.vm := by
      have : s₂ = ({ s₂ with vm := (U.calling g mk a).vm } : State).setVm s₂.vm := rfl
      rw [e2] at this
      exact this
    obtain ⟨c₂, i₂, len₂, hc₂, hd₂, hf₂⟩ := hend
    have hW' : U.WarmedH s₂.vm := hW₂
    have hcc : c₂ = c := by
      have h1 : s₂.code? g.method = U.code? g.method := by
        rw [State.code?_eq, State.code?_eq, hW'.alike.method?]
      exact Option.some.inj (hc₂.symm.trans (h1.trans h.code))
    subst hcc
    have hlen : len₂ = len := by rw [hdg] at hd₂; cases hd₂; rfl
    subst hlen
    have hs₂ : s₂ = (({ U with heap := s₂.heap, slotsUsed := s₂.slotsUsed } : State).setVm s₂.vm).setTop { g with pc := g.pc + len₂, stack := v.toList ++ g.stack } := by
      refine e3.trans ?_
      rw [hf₂, State.calling_eq h.top, State.setFrames_setFrames, State.setTop_of_frames _ hr', hr]
      rfl
    have hsame : U.sameButNew ({ U with heap := s₂.heap, slotsUsed := s₂.slotsUsed } : State) L mc ms := by
      refine ⟨?_, q2, q3, q4, q5, q6⟩
      obtain ⟨t, ht, -⟩ := State.frames_cons hr
      show ({ U with heap := s₂.heap, slotsUsed := s₂.slotsUsed } : State) = { U.setFrames U.frames with heap := s₂.heap, slotsUsed := s₂.slotsUsed }
      rw [State.setFrames_self ht]
    subst hg
    refine Or.inl ⟨v, ⟨(({ U with heap := s₂.heap, slotsUsed := s₂.slotsUsed } : State).setVm s₂.vm), Ls ++ L, c0 + mc, s0 + ms⟩,
      ⟨X.admits, X.cas, X.clock, X.frames, X.room, X.hears, X.method, X.code, (X.here.setHeapUsed s₂.heap s₂.slotsUsed).setVm hW'.alike, X.tail, State.WarmedH.trans X.warmed hW', X.limits, X.bytes, X.same.trans (hsame.setVm s.vm)⟩,
      ⟨g, mk, s₂, L, rfl, rfl, hqc, rfl, hL, rfl, rfl⟩, ?_⟩
    show Steps p.tables e below _ ((({ U with heap := s₂.heap, slotsUsed := s₂.slotsUsed } : State).setVm s₂.vm).setTop { g with pc := g.pc + len₂, stack := v.toList ++ g.stack })
    rw [← hs₂]
    exact hsteps
  · obtain ⟨e2, q2, q3, q4, q5, q6⟩ := id hsm
    have e3 : s₂ = ({ (U.calling g mk a).setFrames s₂.frames with heap := s₂.heap, slotsUsed := s₂.slotsUsed } : State).setVm s₂.vm := by
      have : s₂ = ({ s₂ with vm := (U.calling g mk a).vm } : State).setVm s₂.vm := rfl
      rw [e2] at this
      exact this
    have hf₂ : s₂.frames = .throwing q :: .java g :: U.frames.tail := hend
    have hW' : U.WarmedH s₂.vm := hW₂
    have hs₂ : s₂ = ((({ U with heap := s₂.heap, slotsUsed := s₂.slotsUsed } : State).setVm s₂.vm).setTop g).pushFrame (.throwing q) := by
      refine e3.trans ?_
      rw [hf₂, State.calling_eq h.top, State.setFrames_setFrames, State.pushFrame, State.frames_setTop _ hr', State.setTop_of_frames _ hr', State.setFrames_setFrames, hr]
      rfl
    have hsame : U.sameButNew ({ U with heap := s₂.heap, slotsUsed := s₂.slotsUsed } : State) L mc ms := by
      refine ⟨?_, q2, q3, q4, q5, q6⟩
      obtain ⟨t, ht, -⟩ := State.frames_cons hr
      show ({ U with heap := s₂.heap, slotsUsed := s₂.slotsUsed } : State) = { U.setFrames U.frames with heap := s₂.heap, slotsUsed := s₂.slotsUsed }
      rw [State.setFrames_self ht]
    subst hg
    refine Or.inr ⟨q, ⟨(({ U with heap := s₂.heap, slotsUsed := s₂.slotsUsed } : State).setVm s₂.vm), Ls ++ L, c0 + mc, s0 + ms⟩,
      ⟨X.admits, X.cas, X.clock, X.frames, X.room, X.hears, X.method, X.code, (X.here.setHeapUsed s₂.heap s₂.slotsUsed).setVm hW'.alike, X.tail, State.WarmedH.trans X.warmed hW', X.limits, X.bytes, X.same.trans (hsame.setVm s.vm)⟩,
      ⟨g, mk, s₂, L, E, ce, rfl, rfl, hx, hce, hcv, hcl, rfl, hL, rfl, rfl⟩, ?_⟩
    show Steps p.tables e below _ (((({ U with heap := s₂.heap, slotsUsed := s₂.slotsUsed } : State).setVm s₂.vm).setTop g).pushFrame (.throwing q))
    rw [← hs₂]
    exact hsteps
end Payer
section Calls
variable {p : Program} {l : Launch} {e : Env} {R : Room} {s : State} {m : MethodId} {args : Array Value} {below : List Frame} {meth : Method} {c : Code} {T : State} {locs : List Loc} {cells slots : Nat}
theorem vx_callV (X : Stand p l e R s m args below meth c T locs cells slots) (hexec : p.tables.exec = Jvm.exec) {own C : String} {index : Nat} {y : MethodName} {bytes : ByteArray} {maxL : Nat} {ret : Option FieldType}
    (hown : s.vm.findClass own = some m.cls) (hlink : (Cond.methodLink own index y).before args s = true) (hinst : (Cond.instanceMethod y).before args s = true) (hsel : (Cond.selects C y y).before args s = true)
    (hcode : (Cond.code y bytes maxL ret).before args s = true) (hy : y.cls ≠ "java/lang/invoke/MethodHandle" ∧ y.cls ≠ "java/lang/invoke/VarHandle")
    {W9 : Nat} {Pre : Pt → Array Value → Prop} {Post : Pt → Array Value → Option Value → Pt → Prop} {PostX : Pt → Array Value → Addr → Pt → Prop} (hK : vx_Back l R p e below s args y 3 W9 Pre Post PostX)
    {b : Addr} {cellB : Cell} (hcell : T.heap[b]? = some cellB) (hobj : cellB.vm.isStatics = false) (hcls : s.vm.findClass C = some cellB.cls)
    {g : JFrame} (hg : g.method = m) (hsize : g.locals.size = c.maxLocals) {argsL rest : List Value} (hlen : ∀ sig, parseMethodDescriptor y.desc = some sig → argsL.length = sig.parameters.length)
    (hstack : g.stack = argsL.reverse ++ .ref b :: rest) (hW : 2 * g.monitorRoom + (rest.map fun v => v.category).sum ≤ W9) (hdg : decode c.code g.pc = .ok (.invokevirtual index, 3))
    (hpre : ∀ vm₁, s.WarmedH vm₁ → Pre ⟨T.setVm vm₁, locs, cells, slots⟩ (Value.ref b :: argsL).toArray) :
    (∃ (v : Option Value) (vm₁ : Vm) (B : Pt), s.WarmedH vm₁ ∧ Stand p l e R s m args below meth c B.U B.locs B.cells B.slots ∧ Post ⟨T.setVm vm₁, locs, cells, slots⟩ (Value.ref b :: argsL).toArray v B ∧
      ∀ target, Steps p.tables e below (B.U.setTop { g with pc := g.pc + 3, stack := v.toList ++ rest }) target → Steps p.tables e below (T.setTop g) target) ∨
    (∃ (q : Addr) (vm₁ : Vm) (B : Pt), s.WarmedH vm₁ ∧ Stand p l e R s m args below meth c B.U B.locs B.cells B.slots ∧ PostX ⟨T.setVm vm₁, locs, cells, slots⟩ (Value.ref b :: argsL).toArray q B ∧
      Steps p.tables e below (T.setTop g) ((B.U.setTop { g with stack := rest }).pushFrame (.throwing q))) := by
  obtain ⟨mk, methM, hnamed, hmethM, hstM, habM⟩ := Cond.instanceMethod_spec hinst
  obtain ⟨methM', cM, hmethM', -, -, -, -, -, -, hsigM⟩ := Cond.code_spec hnamed hcode
  cases hmethM.symm.trans hmethM'
  obtain ⟨c2, r2, m2, q1, q2, q3, q4, kP, hkP, hkPi⟩ := Cond.selects_spec hsel
  cases hcls.symm.trans q1
  cases (State.methodFound?_of_named hnamed hy).symm.trans q2
  cases hnamed.symm.trans q3
  have hselP : selectMethod e.platform s.vm cellB.cls mk = .method mk := by rw [Launch.admits_selectMethod X.admits]; exact q4
  obtain ⟨vm₁, X₁, hstep₁⟩ := X.invokevirtual hexec hown hlink hnamed hmethM hstM hkP hkPi hy (a := b) (cell := cellB) hcell
    (fun z h => by rw [h] at hobj; cases hobj) hselP hmethM habM hkP hkPi (g := g) hg (argsL := argsL) (rest := rest) (hlen _ hsigM) hstack hdg
  rcases hK m meth c ⟨T.setVm vm₁, locs, cells, slots⟩ { g with stack := rest } (.invokevirtual index) mk (Value.ref b :: argsL).toArray X₁ hg hsize hdg hW (X₁.named hnamed) (hpre vm₁ X₁.warmed) with ⟨v, B, X', hpost, hsteps⟩ | ⟨q, B, X', hpost, hsteps⟩
  · exact Or.inl ⟨v, vm₁, B, X₁.warmed, X', hpost, fun target h => hstep₁ _ fun acts => by rw [doInvoke_state]; exact hsteps.trans h⟩
  · exact Or.inr ⟨q, vm₁, B, X₁.warmed, X', hpost, hstep₁ _ fun acts => by rw [doInvoke_state]; exact hsteps⟩
theorem vx_callS (X : Stand p l e R s m args below meth c T locs cells slots) (hexec : p.tables.exec = Jvm.exec) {own : String} {index : Nat} {y : MethodName} {bytes : ByteArray} {maxL : Nat} {ret : Option FieldType}
    (hown : s.vm.findClass own = some m.cls) (hlink : (Cond.methodLink own index y).before args s = true) (hstat : (Cond.static y).before args s = true) (hinit : (Cond.initialized y.cls).before args s = true)
    (hcode : (Cond.code y bytes maxL ret).before args s = true) (hy : y.cls ≠ "java/lang/invoke/MethodHandle" ∧ y.cls ≠ "java/lang/invoke/VarHandle")
    {W9 : Nat} {Pre : Pt → Array Value → Prop} {Post : Pt → Array Value → Option Value → Pt → Prop} {PostX : Pt → Array Value → Addr → Pt → Prop} (hK : vx_Back l R p e below s args y 3 W9 Pre Post PostX)
    {g : JFrame} (hg : g.method = m) (hsize : g.locals.size = c.maxLocals) {argsL rest : List Value} (hlen : ∀ sig, parseMethodDescriptor y.desc = some sig → argsL.length = sig.parameters.length)
    (hstack : g.stack = argsL.reverse ++ rest) (hW : 2 * g.monitorRoom + (rest.map fun v => v.category).sum ≤ W9) (hdg : decode c.code g.pc = .ok (.invokestatic index, 3))
    (hpre : ∀ vm₁, s.WarmedH vm₁ → Pre ⟨T.setVm vm₁, locs, cells, slots⟩ argsL.toArray) :
    (∃ (v : Option Value) (vm₁ : Vm) (B : Pt), s.WarmedH vm₁ ∧ Stand p l e R s m args below meth c B.U B.locs B.cells B.slots ∧ Post ⟨T.setVm vm₁, locs, cells, slots⟩ argsL.toArray v B ∧
      ∀ target, Steps p.tables e below (B.U.setTop { g with pc := g.pc + 3, stack := v.toList ++ rest }) target → Steps p.tables e below (T.setTop g) target) ∨
    (∃ (q : Addr) (vm₁ : Vm) (B : Pt), s.WarmedH vm₁ ∧ Stand p l e R s m args below meth c B.U B.locs B.cells B.slots ∧ PostX ⟨T.setVm vm₁, locs, cells, slots⟩ argsL.toArray q B ∧
      Steps p.tables e below (T.setTop g) ((B.U.setTop { g with stack := rest }).pushFrame (.throwing q))) := by
  obtain ⟨mk, hnamed⟩ := Cond.code_named hcode
  obtain ⟨methM, cM, hmethM, -, -, -, -, -, -, hsigM⟩ := Cond.code_spec hnamed hcode
  have hstatic : methM.isStatic = true := Cond.static_spec hnamed hmethM hstat
  obtain ⟨kP, hkP, -⟩ := className_of_methodNamed hnamed
  have hinitP : kP.init = .initialized := Cond.initialized_spec (findClass_of_methodNamed hnamed) hkP hinit
  obtain ⟨vm₁, X₁, hstep₁⟩ := X.invokestatic hexec hown hlink hnamed hmethM hstatic hkP hinitP hy (g := g) hg (argsL := argsL) (rest := rest) (hlen _ hsigM) hstack hdg
  rcases hK m meth c ⟨T.setVm vm₁, locs, cells, slots⟩ { g with stack := rest } (.invokestatic index) mk argsL.toArray X₁ hg hsize hdg hW (X₁.named hnamed) (hpre vm₁ X₁.warmed) with ⟨v, B, X', hpost, hsteps⟩ | ⟨q, B, X', hpost, hsteps⟩
  · exact Or.inl ⟨v, vm₁, B, X₁.warmed, X', hpost, fun target h => hstep₁ _ fun acts => by rw [doInvoke_state]; exact hsteps.trans h⟩
  · exact Or.inr ⟨q, vm₁, B, X₁.warmed, X', hpost, hstep₁ _ fun acts => by rw [doInvoke_state]; exact hsteps⟩
end Calls
theorem vx_cls {s : State} {T : State} {vm₁ : Vm} {E : String} {k : ClassId} (hW : s.WarmedH vm₁) (h : (T.setVm vm₁).vm.findClass E = some k) : s.vm.findClass E = some k := by
  have h1 : vm₁.findClass E = some k := h
  rw [hW.alike.findClass] at h1
  exact h1
/-- the method's frame g, with q thrown over it -/
def vx_W (p : Program) (l : Launch) (e : Env) (R : Room) (s : State) (m : MethodId) (args : Array Value) (below : List Frame) (meth : Method) (c : Code) (H : Heap) (locs : List Loc) (cells slots : Nat) (Q : State → Prop) (g : JFrame) (q : Addr) : Prop :=
  ∀ T : State, T.heap = H → Stand p l e R s m args below meth c T locs cells slots → ∃ t, Steps p.tables e below ((T.setTop g).pushFrame (.throwing q)) t ∧ Q t
def vx_Run (p : Program) (l : Launch) (e : Env) (R : Room) (s : State) (m : MethodId) (args : Array Value) (below : List Frame) (meth : Method) (c : Code) (H : Heap) (locs : List Loc) (cells slots mc ms : Nat) (g : JFrame) (rest : List Value) (Qa : State → Outcome → State → Prop) (XC : String → State → State → Prop) (free : Addr → Prop) : Prop :=
  ∀ T : State, T.heap = H → Stand p l e R s m args below meth c T locs cells slots →
    (∃ (v : Option Value) (st₀ t T' : State) (L : List Loc), st₀.heap = H ∧ Stand p l e R s m args below meth c T' (locs ++ L) (cells + mc) (slots + ms) ∧ (∀ q ∈ L, free q.base) ∧ T'.heap = t.heap ∧ T'.vm = t.vm ∧ Qa st₀ (.returned v) t ∧
      Goes p e below T g T' { g with pc := g.pc + 3, stack := v.toList ++ rest }) ∨
    (∃ (q : Addr) (st₀ t T' : State) (L : List Loc) (E : String) (ce : Cell), st₀.heap = H ∧ Stand p l e R s m args below meth c T' (locs ++ L) (cells + mc) (slots + ms) ∧ (∀ z ∈ L, free z.base) ∧ T'.heap = t.heap ∧ T'.vm = t.vm ∧ XC E st₀ t ∧ t.heap[q]? = some ce ∧ ce.vm = .none ∧ s.vm.findClass E = some ce.cls ∧
      Steps p.tables e below (T.setTop g) ((T'.setTop { g with stack := rest }).pushFrame (.throwing q)))
def vx_X {S : Type} (px : S → Prop) (B : String → S → State → Prop) (A : Nat → Prop) : String → State → State → Prop := fun E st t => ∃ u : S, px u ∧ B E u t ∧ va_F A st t
section Runs
variable {p : Program} {l : Launch} {e : Env} {R : Room} {s : State} {m : MethodId} {args : Array Value} {below : List Frame} {meth : Method} {c : Code} {H : Heap} {locs : List Loc} {cells slots : Nat}
variable {y : MethodName} {bytes cc : ByteArray} {maxL nL mc ms n index : Nat} {ret : Option FieldType} {ws : List Cond} {rm : Room} {Pc : Array Value → State → Prop} {Qc : Array Value → State → Outcome → State → Prop} {XC : String → State → State → Prop} {free : Addr → Prop} {Ts : List Cond} {own C : String} {b : Addr} {As rest : List Value} {g : JFrame}
theorem vx_callBack (cb : CallB R s args own index y bytes maxL ret ws rm mc ms n) (hM : vx_Met l y ws rm Pc Qc XC mc ms free) (hbl : FrameBlind Pc) : vx_Back l R p e below s args y 3 8 (PreOf R mc ms Pc) (PostOf Qc mc ms free) (vx_Post XC mc ms free) := by
  obtain ⟨hrc, hrs, hfr, hlo, hws, hcw, -, hini, -⟩ := cb
  exact vx_back (bytes := bytes) (maxL := maxL) (ret := ret) hM hbl hrc hrs hfr hlo hws hcw (fun a' U hW => word_at hW (Or.inl (by first | rfl | simp [Cond.onTables, Cond.keeps, Cond.steady])) hini)
theorem vx_runV (S : CallFix p m c cc nL s args Ts own) (hM : vx_Met l y ws rm Pc Qc XC mc ms free) (cw : CallW R s args own C index y bytes maxL ret ws rm mc ms n) (hp : PreV s H C b Pc As)
    (hg : g.method = m) (hn : As.length = n) (hsize : g.locals.size = nL) (hstack : g.stack = As.reverse ++ .ref b :: rest) (hW : 2 * g.monitorRoom + (rest.map fun v => v.category).sum ≤ 8) (hdg : decode cc g.pc = .ok (.invokevirtual index, 3)) (hf : cells + mc ≤ R.cells ∧ slots + ms ≤ R.slots) :
    vx_Run p l e R s m args below meth c H locs cells slots mc ms g rest (Qc (Value.ref b :: As).toArray) XC free := by
  have hK : vx_Back l R p e below s args y 3 8 (PreOf R mc ms Pc) (PostOf Qc mc ms free) (vx_Post XC mc ms free) := vx_callBack cw.1 hM hp.1
  obtain ⟨⟨-, -, -, -, -, -, hcode, -, hy, hlen, hl⟩, hin, hse⟩ := cw
  obtain ⟨hx, hb, hml, ho, -⟩ := S
  obtain ⟨-, ⟨cellB, hcB, hoB, hclB⟩, hPc⟩ := hp
  intro T hT X
  rcases vx_callV X hx (C := C) (bytes := bytes) (maxL := maxL) (ret := ret) ho hl hin hse hcode hy hK (by rw [hT]; exact hcB) hoB hclB hg (hsize.trans hml.symm) (argsL := As) (rest := rest) (fun sig h => hn.trans (hlen sig h)) hstack hW (by rw [hb]; exact hdg)
    (fun vm₁ hW₁ => ⟨hf.1, hf.2, hPc (T.setVm vm₁) hT hW₁⟩) with ⟨v, vm₁, ⟨U', l2, c2, s2⟩, hW₁, X', ⟨g', mk, t, L, e1, e2, hq, h1, hL, h2, h3⟩, st⟩ | ⟨q, vm₁, ⟨U', l2, c2, s2⟩, hW₁, X', ⟨g', mk, t, L, E, ce, e1, e2, hq, hce, hcv, hcl, h1, hL, h2, h3⟩, st⟩
  · dsimp only [Pt.U, Pt.locs, Pt.cells, Pt.slots] at X' e1 e2 h1 h2 h3 st
    subst h1; subst h2; subst h3
    exact Or.inl ⟨v, (T.setVm vm₁).calling g' mk (Value.ref b :: As).toArray, t, U', L, hT, X', hL, e1, e2, hq, st⟩
  · dsimp only [Pt.U, Pt.locs, Pt.cells, Pt.slots] at X' e1 e2 h1 h2 h3 st hcl
    subst h1; subst h2; subst h3
    exact Or.inr ⟨q, (T.setVm vm₁).calling g' mk (Value.ref b :: As).toArray, t, U', L, E, ce, hT, X', hL, e1, e2, hq, hce, hcv, vx_cls hW₁ hcl, st⟩
theorem vx_runS (S : CallFix p m c cc nL s args Ts own) (hM : vx_Met l y ws rm Pc Qc XC mc ms free) (cw : CallB R s args own index y bytes maxL ret ws rm mc ms n ∧ (Cond.static y).before args s = true) (hp : PreS s H Pc As)
    (hg : g.method = m) (hn : As.length = n) (hsize : g.locals.size = nL) (hstack : g.stack = As.reverse ++ rest) (hW : 2 * g.monitorRoom + (rest.map fun v => v.category).sum ≤ 8) (hdg : decode cc g.pc = .ok (.invokestatic index, 3)) (hf : cells + mc ≤ R.cells ∧ slots + ms ≤ R.slots) :
    vx_Run p l e R s m args below meth c H locs cells slots mc ms g rest (Qc As.toArray) XC free := by
  have hK : vx_Back l R p e below s args y 3 8 (PreOf R mc ms Pc) (PostOf Qc mc ms free) (vx_Post XC mc ms free) := vx_callBack cw.1 hM hp.1
  obtain ⟨⟨-, -, -, -, -, -, hcode, hini, hy, hlen, hl⟩, hstt⟩ := cw
  obtain ⟨hx, hb, hml, ho, -⟩ := S
  intro T hT X
  rcases vx_callS X hx (bytes := bytes) (maxL := maxL) (ret := ret) ho hl hstt hini hcode hy hK hg (hsize.trans hml.symm) (argsL := As) (rest := rest) (fun sig h => hn.trans (hlen sig h)) hstack hW (by rw [hb]; exact hdg)
    (fun vm₁ hW₁ => ⟨hf.1, hf.2, hp.2 (T.setVm vm₁) hT hW₁⟩) with ⟨v, vm₁, ⟨U', l2, c2, s2⟩, hW₁, X', ⟨g', mk, t, L, e1, e2, hq, h1, hL, h2, h3⟩, st⟩ | ⟨q, vm₁, ⟨U', l2, c2, s2⟩, hW₁, X', ⟨g', mk, t, L, E, ce, e1, e2, hq, hce, hcv, hcl, h1, hL, h2, h3⟩, st⟩
  · dsimp only [Pt.U, Pt.locs, Pt.cells, Pt.slots] at X' e1 e2 h1 h2 h3 st
    subst h1; subst h2; subst h3
    exact Or.inl ⟨v, (T.setVm vm₁).calling g' mk As.toArray, t, U', L, hT, X', hL, e1, e2, hq, st⟩
  · dsimp only [Pt.U, Pt.locs, Pt.cells, Pt.slots] at X' e1 e2 h1 h2 h3 st hcl
    subst h1; subst h2; subst h3
    exact Or.inr ⟨q, (T.setVm vm₁).calling g' mk As.toArray, t, U', L, E, ce, hT, X', hL, e1, e2, hq, hce, hcv, vx_cls hW₁ hcl, st⟩
end Runs
section Rows
variable {p : Program} {l : Launch} {e : Env} {R : Room} {s : State} {m : MethodId} {args : Array Value} {below : List Frame} {meth : Method} {c : Code} {H : Heap} {locs : List Loc} {cells slots : Nat} {Q : State → Prop}
variable {mc ms : Nat} {free : Addr → Prop} {A0 A1 : Nat → Prop} {H0 : Heap} {a : Array Value} {pc : Nat} {ls : Array Slot} {st0 rest : List Value}
theorem vx_keep {st₀ t T' : State} {L : List Loc} (h0 : st₀.heap = H) (e1 : T'.heap = t.heap) (hS : va_S A0 H0 H locs) (hA : ∀ q, q < H.size → A1 q → A0 q) (hf : ∀ q, free q → A0 q) (hL : ∀ q ∈ L, free q.base) (hF : va_F A1 st₀ t) :
    H.size ≤ T'.heap.size ∧ (∀ q : Nat, q < H.size → ¬ A1 q → T'.heap[q]? = H[q]?) ∧ va_S A0 H0 T'.heap (locs ++ L) := by
  obtain ⟨hz, hk⟩ := hF
  rw [h0] at hz hk
  exact ⟨by rw [e1]; exact hz, fun q h1 h2 => by rw [e1]; exact hk q h1 h2,
    ⟨Nat.le_trans hS.1 (by rw [e1]; exact hz), fun q h1 h2 => by rw [e1, hk q (Nat.lt_of_lt_of_le h1 hS.1) (fun z => h2 (hA q (Nat.lt_of_lt_of_le h1 hS.1) z))]; exact hS.2.1 q h1 h2, fun q hq => by
      rcases List.mem_append.mp hq with h | h
      · exact hS.2.2 q h
      · exact hf _ (hL q h)⟩⟩
theorem vx_calli {S SX : Type} {post : Int32 → S → Prop} {px : SX → Prop} {B : S → State → Prop} {BX : String → SX → State → Prop} {AX : Nat → Prop} (hr : vx_Run p l e R s m args below meth c H locs cells slots mc ms (F0 m pc ls st0) rest (va_Qi post B A1 a) (vx_X px BX AX) free) (hS : va_S A0 H0 H locs) (hA : ∀ q, q < H.size → A1 q → A0 q) (hf : ∀ q, free q → A0 q) (hAX : ∀ q, q < H.size → AX q → A0 q)
    (kx : ∀ (E : String) (ce : Cell) (q9 : Addr) (u : SX) (t : State) (H1 : Heap) (locs1 : List Loc), t.heap = H1 → s.vm.Alike t.vm → px u → BX E u t → H.size ≤ H1.size → (∀ q : Nat, q < H.size → ¬ AX q → H1[q]? = H[q]?) → va_S A0 H0 H1 locs1 → H1[q9]? = some ce → ce.vm = .none → s.vm.findClass E = some ce.cls → vx_W p l e R s m args below meth c H1 locs1 (cells + mc) (slots + ms) Q (F0 m pc ls rest) q9)
    (kk : ∀ (r : Int32) (u : S) (t : State) (H1 : Heap) (locs1 : List Loc), t.heap = H1 → s.vm.Alike t.vm → post r u → B u t → H.size ≤ H1.size → (∀ q : Nat, q < H.size → ¬ A1 q → H1[q]? = H[q]?) → va_S A0 H0 H1 locs1 → W p l e R s m args below meth c H1 locs1 (cells + mc) (slots + ms) Q (F0 m (pc + 3) ls (.int r :: rest))) : W p l e R s m args below meth c H locs cells slots Q (F0 m pc ls st0) := by
  intro T hT X
  rcases hr T hT X with ⟨v, st₀, t, T', L, h0, X', hL, e1, e2, ⟨⟨r, u, hv, hp, hb⟩, hF⟩, st⟩ | ⟨q, st₀, t, T', L, E, ce, h0, X', hL, e1, e2, ⟨u, hp, hb, hF⟩, hce, hcv, hcl, st⟩
  · cases hv
    obtain ⟨k1, k2, k3⟩ := vx_keep h0 e1 hS hA hf hL hF
    obtain ⟨t2, a1, b1⟩ := kk r u t T'.heap (locs ++ L) e1.symm (by rw [← e2]; exact X'.warmed.alike) hp hb k1 k2 k3 T' rfl X'
    exact ⟨t2, st t2 a1, b1⟩
  · obtain ⟨k1, k2, k3⟩ := vx_keep h0 e1 hS hAX hf hL hF
    obtain ⟨t2, a1, b1⟩ := kx E ce q u t T'.heap (locs ++ L) e1.symm (by rw [← e2]; exact X'.warmed.alike) hp hb k1 k2 k3 (by rw [e1]; exact hce) hcv hcl T' rfl X'
    exact ⟨t2, st.trans a1, b1⟩
theorem vx_calll {S SX : Type} {post : Int64 → S → Prop} {px : SX → Prop} {B : S → State → Prop} {BX : String → SX → State → Prop} {AX : Nat → Prop} (hr : vx_Run p l e R s m args below meth c H locs cells slots mc ms (F0 m pc ls st0) rest (va_Ql post B A1 a) (vx_X px BX AX) free) (hS : va_S A0 H0 H locs) (hA : ∀ q, q < H.size → A1 q → A0 q) (hf : ∀ q, free q → A0 q) (hAX : ∀ q, q < H.size → AX q → A0 q)
    (kx : ∀ (E : String) (ce : Cell) (q9 : Addr) (u : SX) (t : State) (H1 : Heap) (locs1 : List Loc), t.heap = H1 → s.vm.Alike t.vm → px u → BX E u t → H.size ≤ H1.size → (∀ q : Nat, q < H.size → ¬ AX q → H1[q]? = H[q]?) → va_S A0 H0 H1 locs1 → H1[q9]? = some ce → ce.vm = .none → s.vm.findClass E = some ce.cls → vx_W p l e R s m args below meth c H1 locs1 (cells + mc) (slots + ms) Q (F0 m pc ls rest) q9)
    (kk : ∀ (r : Int64) (u : S) (t : State) (H1 : Heap) (locs1 : List Loc), t.heap = H1 → s.vm.Alike t.vm → post r u → B u t → H.size ≤ H1.size → (∀ q : Nat, q < H.size → ¬ A1 q → H1[q]? = H[q]?) → va_S A0 H0 H1 locs1 → W p l e R s m args below meth c H1 locs1 (cells + mc) (slots + ms) Q (F0 m (pc + 3) ls (.long r :: rest))) : W p l e R s m args below meth c H locs cells slots Q (F0 m pc ls st0) := by
  intro T hT X
  rcases hr T hT X with ⟨v, st₀, t, T', L, h0, X', hL, e1, e2, ⟨⟨r, u, hv, hp, hb⟩, hF⟩, st⟩ | ⟨q, st₀, t, T', L, E, ce, h0, X', hL, e1, e2, ⟨u, hp, hb, hF⟩, hce, hcv, hcl, st⟩
  · cases hv
    obtain ⟨k1, k2, k3⟩ := vx_keep h0 e1 hS hA hf hL hF
    obtain ⟨t2, a1, b1⟩ := kk r u t T'.heap (locs ++ L) e1.symm (by rw [← e2]; exact X'.warmed.alike) hp hb k1 k2 k3 T' rfl X'
    exact ⟨t2, st t2 a1, b1⟩
  · obtain ⟨k1, k2, k3⟩ := vx_keep h0 e1 hS hAX hf hL hF
    obtain ⟨t2, a1, b1⟩ := kx E ce q u t T'.heap (locs ++ L) e1.symm (by rw [← e2]; exact X'.warmed.alike) hp hb k1 k2 k3 (by rw [e1]; exact hce) hcv hcl T' rfl X'
    exact ⟨t2, st.trans a1, b1⟩
theorem vx_callf {S SX : Type} {post : UInt32 → S → Prop} {px : SX → Prop} {B : S → State → Prop} {BX : String → SX → State → Prop} {AX : Nat → Prop} (hr : vx_Run p l e R s m args below meth c H locs cells slots mc ms (F0 m pc ls st0) rest (va_Qf post B A1 a) (vx_X px BX AX) free) (hS : va_S A0 H0 H locs) (hA : ∀ q, q < H.size → A1 q → A0 q) (hf : ∀ q, free q → A0 q) (hAX : ∀ q, q < H.size → AX q → A0 q)
    (kx : ∀ (E : String) (ce : Cell) (q9 : Addr) (u : SX) (t : State) (H1 : Heap) (locs1 : List Loc), t.heap = H1 → s.vm.Alike t.vm → px u → BX E u t → H.size ≤ H1.size → (∀ q : Nat, q < H.size → ¬ AX q → H1[q]? = H[q]?) → va_S A0 H0 H1 locs1 → H1[q9]? = some ce → ce.vm = .none → s.vm.findClass E = some ce.cls → vx_W p l e R s m args below meth c H1 locs1 (cells + mc) (slots + ms) Q (F0 m pc ls rest) q9)
    (kk : ∀ (r : UInt32) (u : S) (t : State) (H1 : Heap) (locs1 : List Loc), t.heap = H1 → s.vm.Alike t.vm → post r u → B u t → H.size ≤ H1.size → (∀ q : Nat, q < H.size → ¬ A1 q → H1[q]? = H[q]?) → va_S A0 H0 H1 locs1 → W p l e R s m args below meth c H1 locs1 (cells + mc) (slots + ms) Q (F0 m (pc + 3) ls (.float r :: rest))) : W p l e R s m args below meth c H locs cells slots Q (F0 m pc ls st0) := by
  intro T hT X
  rcases hr T hT X with ⟨v, st₀, t, T', L, h0, X', hL, e1, e2, ⟨⟨r, u, hv, hp, hb⟩, hF⟩, st⟩ | ⟨q, st₀, t, T', L, E, ce, h0, X', hL, e1, e2, ⟨u, hp, hb, hF⟩, hce, hcv, hcl, st⟩
  · cases hv
    obtain ⟨k1, k2, k3⟩ := vx_keep h0 e1 hS hA hf hL hF
    obtain ⟨t2, a1, b1⟩ := kk r u t T'.heap (locs ++ L) e1.symm (by rw [← e2]; exact X'.warmed.alike) hp hb k1 k2 k3 T' rfl X'
    exact ⟨t2, st t2 a1, b1⟩
  · obtain ⟨k1, k2, k3⟩ := vx_keep h0 e1 hS hAX hf hL hF
    obtain ⟨t2, a1, b1⟩ := kx E ce q u t T'.heap (locs ++ L) e1.symm (by rw [← e2]; exact X'.warmed.alike) hp hb k1 k2 k3 (by rw [e1]; exact hce) hcv hcl T' rfl X'
    exact ⟨t2, st.trans a1, b1⟩
theorem vx_calld {S SX : Type} {post : UInt64 → S → Prop} {px : SX → Prop} {B : S → State → Prop} {BX : String → SX → State → Prop} {AX : Nat → Prop} (hr : vx_Run p l e R s m args below meth c H locs cells slots mc ms (F0 m pc ls st0) rest (va_Qd post B A1 a) (vx_X px BX AX) free) (hS : va_S A0 H0 H locs) (hA : ∀ q, q < H.size → A1 q → A0 q) (hf : ∀ q, free q → A0 q) (hAX : ∀ q, q < H.size → AX q → A0 q)
    (kx : ∀ (E : String) (ce : Cell) (q9 : Addr) (u : SX) (t : State) (H1 : Heap) (locs1 : List Loc), t.heap = H1 → s.vm.Alike t.vm → px u → BX E u t → H.size ≤ H1.size → (∀ q : Nat, q < H.size → ¬ AX q → H1[q]? = H[q]?) → va_S A0 H0 H1 locs1 → H1[q9]? = some ce → ce.vm = .none → s.vm.findClass E = some ce.cls → vx_W p l e R s m args below meth c H1 locs1 (cells + mc) (slots + ms) Q (F0 m pc ls rest) q9)
    (kk : ∀ (r : UInt64) (u : S) (t : State) (H1 : Heap) (locs1 : List Loc), t.heap = H1 → s.vm.Alike t.vm → post r u → B u t → H.size ≤ H1.size → (∀ q : Nat, q < H.size → ¬ A1 q → H1[q]? = H[q]?) → va_S A0 H0 H1 locs1 → W p l e R s m args below meth c H1 locs1 (cells + mc) (slots + ms) Q (F0 m (pc + 3) ls (.double r :: rest))) : W p l e R s m args below meth c H locs cells slots Q (F0 m pc ls st0) := by
  intro T hT X
  rcases hr T hT X with ⟨v, st₀, t, T', L, h0, X', hL, e1, e2, ⟨⟨r, u, hv, hp, hb⟩, hF⟩, st⟩ | ⟨q, st₀, t, T', L, E, ce, h0, X', hL, e1, e2, ⟨u, hp, hb, hF⟩, hce, hcv, hcl, st⟩
  · cases hv
    obtain ⟨k1, k2, k3⟩ := vx_keep h0 e1 hS hA hf hL hF
    obtain ⟨t2, a1, b1⟩ := kk r u t T'.heap (locs ++ L) e1.symm (by rw [← e2]; exact X'.warmed.alike) hp hb k1 k2 k3 T' rfl X'
    exact ⟨t2, st t2 a1, b1⟩
  · obtain ⟨k1, k2, k3⟩ := vx_keep h0 e1 hS hAX hf hL hF
    obtain ⟨t2, a1, b1⟩ := kx E ce q u t T'.heap (locs ++ L) e1.symm (by rw [← e2]; exact X'.warmed.alike) hp hb k1 k2 k3 (by rw [e1]; exact hce) hcv hcl T' rfl X'
    exact ⟨t2, st.trans a1, b1⟩
theorem vx_callv {S SX : Type} {post : S → Prop} {px : SX → Prop} {B : S → State → Prop} {BX : String → SX → State → Prop} {AX : Nat → Prop} (hr : vx_Run p l e R s m args below meth c H locs cells slots mc ms (F0 m pc ls st0) rest (va_Qv post B A1 a) (vx_X px BX AX) free) (hS : va_S A0 H0 H locs) (hA : ∀ q, q < H.size → A1 q → A0 q) (hf : ∀ q, free q → A0 q) (hAX : ∀ q, q < H.size → AX q → A0 q)
    (kx : ∀ (E : String) (ce : Cell) (q9 : Addr) (u : SX) (t : State) (H1 : Heap) (locs1 : List Loc), t.heap = H1 → s.vm.Alike t.vm → px u → BX E u t → H.size ≤ H1.size → (∀ q : Nat, q < H.size → ¬ AX q → H1[q]? = H[q]?) → va_S A0 H0 H1 locs1 → H1[q9]? = some ce → ce.vm = .none → s.vm.findClass E = some ce.cls → vx_W p l e R s m args below meth c H1 locs1 (cells + mc) (slots + ms) Q (F0 m pc ls rest) q9)
    (kk : ∀ (u : S) (t : State) (H1 : Heap) (locs1 : List Loc), t.heap = H1 → s.vm.Alike t.vm → post u → B u t → H.size ≤ H1.size → (∀ q : Nat, q < H.size → ¬ A1 q → H1[q]? = H[q]?) → va_S A0 H0 H1 locs1 → W p l e R s m args below meth c H1 locs1 (cells + mc) (slots + ms) Q (F0 m (pc + 3) ls (rest))) : W p l e R s m args below meth c H locs cells slots Q (F0 m pc ls st0) := by
  intro T hT X
  rcases hr T hT X with ⟨v, st₀, t, T', L, h0, X', hL, e1, e2, ⟨⟨u, hv, hp, hb⟩, hF⟩, st⟩ | ⟨q, st₀, t, T', L, E, ce, h0, X', hL, e1, e2, ⟨u, hp, hb, hF⟩, hce, hcv, hcl, st⟩
  · cases hv
    obtain ⟨k1, k2, k3⟩ := vx_keep h0 e1 hS hA hf hL hF
    obtain ⟨t2, a1, b1⟩ := kk u t T'.heap (locs ++ L) e1.symm (by rw [← e2]; exact X'.warmed.alike) hp hb k1 k2 k3 T' rfl X'
    exact ⟨t2, st t2 a1, b1⟩
  · obtain ⟨k1, k2, k3⟩ := vx_keep h0 e1 hS hAX hf hL hF
    obtain ⟨t2, a1, b1⟩ := kx E ce q u t T'.heap (locs ++ L) e1.symm (by rw [← e2]; exact X'.warmed.alike) hp hb k1 k2 k3 (by rw [e1]; exact hce) hcv hcl T' rfl X'
    exact ⟨t2, st.trans a1, b1⟩
/-- caught by the row x of this method's table; the rows ahead don't take it -/
theorem vx_catch {own name : String} {E : String} {ce : Cell} {q : Addr} (hown : s.vm.findClass own = some m.cls) (pre : List ExceptionTableEntry) (x : ExceptionTableEntry) (suf : List ExceptionTableEntry) (hsplit : c.exceptionTable.toList = pre ++ x :: suf)
    (hpass : ∀ z ∈ pre, covers z pc = false ∨ (z.catchType ≠ 0 ∧ ∃ nm : String, (Cond.classLink own z.catchType nm).before args s = true ∧ va_Nc E nm s)) (hx : covers x pc = true) (h0 : x.catchType ≠ 0)
    (hlink : (Cond.classLink own x.catchType name).before args s = true) (hcast : (Cond.castable E name).before args s = true) (hcell : H[q]? = some ce) (hv : ce.vm = .none) (hcl : s.vm.findClass E = some ce.cls)
    (kk : W p l e R s m args below meth c H locs cells slots Q (F0 m x.handlerPc ls [.ref q])) : vx_W p l e R s m args below meth c H locs cells slots Q (F0 m pc ls rest) q := by
  intro T hT X
  have hpl : e.platform.magicAccessors = ({} : Platform).magicAccessors := by rw [X.admits.platform]
  obtain ⟨c3, c4, hc3, hc4, hasg⟩ := Cond.castable_spec hcast
  cases Option.some.inj (hc3.symm.trans hcl)
  obtain ⟨c5, hc5, hcl5⟩ := Cond.classLink_spec hown hlink e.platform hpl
  cases Option.some.inj (hc4.symm.trans hc5)
  obtain ⟨vm', X', st⟩ := X.thenCaughtThrough q (g := F0 m pc ls rest) rfl (Steps.refl _) (by rw [hT]; exact hcell) (by rw [hv]; rfl) (by obtain ⟨k9, h9, -⟩ := Vm.findClass_spec hcl; exact ⟨k9, h9⟩) pre x suf hsplit
    (fun z hz => by
      rcases hpass z hz with h | ⟨hz0, nm, hl1, hn1⟩
      · exact Or.inl h
      · obtain ⟨c6, hc6, hcl6⟩ := Cond.classLink_spec hown hl1 e.platform hpl
        obtain ⟨a8, b8, h1, h2, h3⟩ := hn1
        cases Option.some.inj (h1.symm.trans hcl)
        cases Option.some.inj (h2.symm.trans hc6)
        exact Or.inr ⟨hz0, _, hcl6, h3⟩) hx (Or.inr ⟨h0, c4, hcl5, hasg⟩)
  obtain ⟨t, a1, b1⟩ := kk (T.setVm vm') hT X'
  exact ⟨t, st.trans a1, b1⟩
end Rows
section Ends
variable {p : Program} {l : Launch} {e : Env} {R : Room} {s : State} {m : MethodId} {args : Array Value} {below : List Frame} {meth : Method} {c : Code} {H : Heap} {locs : List Loc} {cells slots : Nat} {Q : State → Prop}
variable {mc ms : Nat} {free : Addr → Prop} {A0 A1 : Nat → Prop} {H0 : Heap} {a : Array Value} {ls : Array Slot} {st0 rest : List Value}
variable {Qc : Array Value → State → Outcome → State → Prop} {XC : String → State → State → Prop}
/-- what a body that may throw owes at its end -/
def vx_MQ (below : List Frame) (Qc : Array Value → State → Outcome → State → Prop) (XC : String → State → State → Prop) (a : Array Value) (s : State) (mc ms : Nat) (free : Addr → Prop) : State → Prop := fun t =>
  ∃ o, t.status = .running ∧ Ended t below o ∧ vx_Q Qc XC mc ms free a s o t
theorem vx_ret {g : JFrame} {mc ms : Nat} (k : W p l e R s m args below meth c H locs cells slots (MQ below Qc args s mc ms free) g) : W p l e R s m args below meth c H locs cells slots (vx_MQ below Qc XC args s mc ms free) g := by
  intro T hT X
  obtain ⟨t, a1, o, b1, b2, b3, b4⟩ := k T hT X
  exact ⟨t, a1, o, b1, b2, Or.inl ⟨b3, b4⟩⟩
/-- not caught here: it goes on to the caller -/
theorem vx_widen {g : JFrame} {q : Addr} {k n : Nat} (h1 : cells ≤ k) (h2 : slots ≤ n) (kk : vx_W p l e R s m args below meth c H locs k n Q g q) : vx_W p l e R s m args below meth c H locs cells slots Q g q := fun T hT X => kk T hT (stand_widen X h1 h2)
theorem vx_out {pc : Nat} {E : String} {ce : Cell} {q : Addr} {mc ms : Nat} (hout : ∀ x ∈ c.exceptionTable.toList, covers x pc = false) (hlocks : meth.locks = false) (hcell : H[q]? = some ce) (hv : ce.vm = .none) (hcl : s.vm.findClass E = some ce.cls)
    (hx : ∀ t : State, t.heap = H → s.vm.Alike t.vm → XC E s t) (hf : ∀ z ∈ locs, free z.base) (hc : cells ≤ mc) (hs : slots ≤ ms) :
    vx_W p l e R s m args below meth c H locs cells slots (vx_MQ below Qc XC args s mc ms free) (F0 m pc ls rest) q := by
  intro T hT X
  obtain ⟨st1, hrun, hend, hW, hsm⟩ := X.leaveThrown q (g := F0 m pc ls rest) rfl rfl rfl hout hlocks
  have hcell9 : (T.setFrames (.throwing q :: below)).heap[q]? = some ce := by
    show T.heap[q]? = some ce
    rw [hT]; exact hcell
  exact ⟨_, st1, .threw q, hrun, hend, Or.inr ⟨q, rfl, E, ce, locs, hx _ hT hW.alike, hcell9, hv, hcl, hW, hsm.mono hc hs, hf⟩⟩
theorem vx_frame {U : State} {k n : Nat} (h : s.sameButNew ({ U with vm := s.vm } : State) locs k n) : s.heap.size ≤ U.heap.size ∧ ∀ q : Nat, q < s.heap.size → (∀ z ∈ locs, z.base ≠ q) → U.heap[q]? = s.heap[q]? := by
  obtain ⟨-, h2, -, -, -, h6⟩ := h
  refine ⟨h2, fun q hq hz => ?_⟩
  obtain ⟨c9, e1, e2, e3, e4⟩ := h6 q _ (Array.getElem?_eq_getElem hq)
  have hs : c9.slots = (s.heap[q]).slots := Array.ext_getElem? fun i => e4 i fun hm => hz _ hm rfl
  have h9 : c9 = s.heap[q] := by
    rw [hs] at e2
    exact e2
  have e5 : U.heap[q]? = some c9 := e1
  rw [e5, h9, Array.getElem?_eq_getElem hq]
/-- the words of a throw but the four that speak of the heap -/
def vx_no (w : Cond) : Bool := decide (w ≠ .isRef (.static Bundle.tN "UNASSIGNED_STACK" Bundle.steD)) && decide (w ≠ .isRef (.static Bundle.tN "SUPPRESSED_SENTINEL" Bundle.listD)) && decide (w ≠ .laysStatic Bundle.tN "UNASSIGNED_STACK" Bundle.steD) && decide (w ≠ .laysStatic Bundle.tN "SUPPRESSED_SENTINEL" Bundle.listD)
def vx_at0 (own : String) (ic : Nat) (X : String) (names : List String) : List Cond := (Bundle.ownAtoms0 own ic X names).filter vx_no
def vx_atS (own : String) (ic : Nat) (X : String) (names : List String) : List Cond := (Bundle.ownAtoms own ic X names).filter vx_no
/-- a word that the tables alone decide, or a good one -/
def vx_ot (w : Cond) : Bool := w.onTables || goodWord w
theorem vx_ot_at {args a' : Array Value} {s U : State} {w : Cond} (hW : s.WarmedH U.vm) (hvm : s.vm = U.vm) (hg : vx_ot w = true) (h : w.before args s = true) : w.before a' U = true := by
  simp only [vx_ot, Bool.or_eq_true] at hg
  rcases hg with hg | hg
  · exact va_tabs hg hvm h
  · exact word_at hW (good_of_word hg) h
/-- a list's words: the good ones out of the method's own list, the others by premises of their own -/
theorem vx_hat {args : Array Value} {s : State} {L B : List Cond} (h1 : ∀ w ∈ L.filter goodWord, w.before args s = true) (h2 : ∀ w ∈ L.filter (fun w => !goodWord w), w ∈ B) (h3 : ∀ w ∈ B, w.before args s = true) : ∀ w ∈ L, w.before args s = true := by
  intro w hw
  by_cases g : goodWord w = true
  · exact h1 w (List.mem_filter.mpr ⟨hw, g⟩)
  · refine h3 w (h2 w (List.mem_filter.mpr ⟨hw, ?_⟩))
    show (!goodWord w) = true
    cases hgw : goodWord w
    · rfl
    · exact absurd hgw g
theorem vx_c {args : Array Value} {s : State} {w : Cond} {B : List Cond} (h : w.before args s = true) (t : ∀ w ∈ B, w.before args s = true) : ∀ w' ∈ w :: B, w'.before args s = true := fun w' h' => (List.mem_cons.mp h').elim (fun e => by rw [e]; exact h) (t w')
theorem vx_n {args : Array Value} {s : State} : ∀ w ∈ ([] : List Cond), w.before args s = true := fun _ h => nomatch h
theorem vx_own {args : Array Value} {s : State} {L : List Cond} (h1 : ∀ w ∈ L.filter vx_no, w.before args s = true)
    (hU : (Cond.isRef (.static Bundle.tN "UNASSIGNED_STACK" Bundle.steD)).before args s = true) (hN : (Cond.isRef (.static Bundle.tN "SUPPRESSED_SENTINEL" Bundle.listD)).before args s = true)
    (lU : (Cond.laysStatic Bundle.tN "UNASSIGNED_STACK" Bundle.steD).before args s = true) (lN : (Cond.laysStatic Bundle.tN "SUPPRESSED_SENTINEL" Bundle.listD).before args s = true) : ∀ w ∈ L, w.before args s = true := by
  intro w hw
  by_cases e1 : w = .isRef (.static Bundle.tN "UNASSIGNED_STACK" Bundle.steD)
  · rw [e1]; exact hU
  · by_cases e2 : w = .isRef (.static Bundle.tN "SUPPRESSED_SENTINEL" Bundle.listD)
    · rw [e2]; exact hN
    · by_cases e3 : w = .laysStatic Bundle.tN "UNASSIGNED_STACK" Bundle.steD
      · rw [e3]; exact lU
      · by_cases e4 : w = .laysStatic Bundle.tN "SUPPRESSED_SENTINEL" Bundle.listD
        · rw [e4]; exact lN
        · exact h1 w (List.mem_filter.mpr ⟨hw, by unfold vx_no; rw [decide_eq_true e1, decide_eq_true e2, decide_eq_true e3, decide_eq_true e4]; rfl⟩)
/-- where a static field lies, its class's statics cell in H -/
def vx_L (C n d : String) (A : Nat → Prop) (U : State) (H : Heap) : Prop := ∃ (c : ClassId) (k : Class) (i : Nat) (f : Field) (a : Nat) (cell : Cell), U.vm.findClass C = some c ∧ U.fieldFound? C n d = some (c, k, i, f) ∧ f.isStatic = true ∧ k.statics = some a ∧ H[a]? = some cell ∧ cell.vm.isStatics = true ∧ cell.cls = c ∧ f.slot < cell.slots.size ∧ k.staticTypes[f.slot]? = some f.type ∧ ¬ A a
theorem vx_L.moved {C n d : String} {A : Nat → Prop} {u U : State} {H : Heap} (hvm : u.vm.Alike U.vm) (h : vx_L C n d A u H) : vx_L C n d A U H := by
  obtain ⟨c, k, i, f, a, cell, h1, h2, h3, h4, h5, h6, h7, h8, h9, h10⟩ := h
  obtain ⟨k', hi', he⟩ := State.fieldFound?_setVm hvm h2
  exact ⟨c, k', i, f, a, cell, by rw [hvm.findClass]; exact h1, hi', h3, by rw [he]; exact h4, h5, h6, h7, h8, by rw [he]; exact h9, h10⟩
theorem vx_L.kept {C n d : String} {A : Nat → Prop} {U : State} {H H1 : Heap} (h : vx_L C n d A U H) (hq : ∀ a : Nat, a < H.size → ¬ A a → H1[a]? = H[a]?) : vx_L C n d A U H1 := by
  obtain ⟨c, k, i, f, a, cell, h1, h2, h3, h4, h5, h6, h7, h8, h9, h10⟩ := h
  exact ⟨c, k, i, f, a, cell, h1, h2, h3, h4, by rw [hq a (Array.getElem?_eq_some_iff.mp h5).1 h10]; exact h5, h6, h7, h8, h9, h10⟩
theorem vx_L.narrow {C n d : String} {A B : Nat → Prop} {U : State} {H : Heap} (h : vx_L C n d A U H) (hAB : ∀ q, B q → A q) : vx_L C n d B U H := by
  obtain ⟨c, k, i, f, a, cell, h1, h2, h3, h4, h5, h6, h7, h8, h9, h10⟩ := h
  exact ⟨c, k, i, f, a, cell, h1, h2, h3, h4, h5, h6, h7, h8, h9, fun z => h10 (hAB _ z)⟩
theorem vx_L.word {C n d : String} {A : Nat → Prop} {s : State} {args : Array Value} (h : vx_L C n d A s s.heap) : (Cond.laysStatic C n d).before args s = true := by
  obtain ⟨c, k, i, f, a, cell, h1, h2, h3, h4, h5, h6, h7, h8, h9, -⟩ := h
  show (Cond.laysStatic C n d).holds args s none s [] = true
  exact Cond.laysStatic_of h1 h2 h3 h4 h5 h6 h7 h8 h9
/-- .. and what it holds: null or some reference -/
def vx_Zq (C n d : String) (A : Nat → Prop) (U : State) (H : Heap) : Prop := va_Zq C n d A U H ∧ vx_L C n d A U H
theorem vx_Zq.moved {C n d : String} {A : Nat → Prop} {u U : State} {H : Heap} (hvm : u.vm.Alike U.vm) (h : vx_Zq C n d A u H) : vx_Zq C n d A U H := ⟨va_Zq.moved hvm h.1, vx_L.moved hvm h.2⟩
theorem vx_Zq.kept {C n d : String} {A : Nat → Prop} {U : State} {H H1 : Heap} (h : vx_Zq C n d A U H) (hq : ∀ a : Nat, a < H.size → ¬ A a → H1[a]? = H[a]?) : vx_Zq C n d A U H1 := ⟨va_Zq.kept h.1 hq, vx_L.kept h.2 hq⟩
theorem vx_Zq.narrow {C n d : String} {A B : Nat → Prop} {U : State} {H : Heap} (h : vx_Zq C n d A U H) (hAB : ∀ q, B q → A q) : vx_Zq C n d B U H := ⟨va_Zq.narrow h.1 hAB, vx_L.narrow h.2 hAB⟩
theorem vx_Zqof {args : Array Value} {s : State} {C n d : String} {A : Nat → Prop} (hl : (Cond.laysStatic C n d).before args s = true) (hini : (Cond.initialized C).before args s = true) (h : (Cond.isRef (.static C n d)).before args s = true) (hA : ∀ a : Nat, a < s.heap.size → ¬ A a) : vx_Zq C n d A s s.heap := by
  refine ⟨va_Zqof hl hini h hA, ?_⟩
  obtain ⟨c, k, i, f, a, cell, h1, h2, h3, h4, h5, h6, h7, h8, h9⟩ := Cond.laysStatic_spec hl
  exact ⟨c, k, i, f, a, cell, h1, h2, h3, h4, h5, h6, h7, h8, h9, hA a (Array.getElem?_eq_some_iff.mp h5).1⟩
theorem vx_isRef {C n d : String} {v : Value} {A : Nat → Prop} {s : State} {args : Array Value} (h : va_Z C n d v A s s.heap) (hv : v.isRef = true) : (Cond.isRef (.static C n d)).before args s = true := by
  obtain ⟨cf, kf, fi, f, a, cell, h1, h2, h3, h4, h5, h6, h7, -⟩ := h
  have he : (Term.static C n d).eval args s none [] s = some v := by
    simp [Term.eval, State.fieldNamed?, h1, h2, h4, h5, h6, h7]
  simp only [Cond.before, Cond.holds, Cond.value, he]
  cases v <;> simp_all [Value.isRef]
theorem vx_isRefq {C n d : String} {A : Nat → Prop} {s : State} {args : Array Value} (h : va_Zq C n d A s s.heap) : (Cond.isRef (.static C n d)).before args s = true := by
  rcases h with h | ⟨t, h⟩
  · exact vx_isRef h rfl
  · exact vx_isRef h rfl
/-- the same frame, seen from here: as if the method were called anew in this heap -/
theorem vx_rebase {T : State} (X : Stand p l e R s m args below meth c T locs cells slots) {R' : Room} (hf : R'.frames ≤ R.frames) (hl : R'.locals ≤ R.locals) (hc : cells + R'.cells ≤ R.cells) (hs : slots + R'.slots ≤ R.slots) :
    Stand p l e R' ((T.setVm s.vm).setFrames (.invoking m args :: below)) m args below meth c T [] 0 0 := by
  have htop : (T.setVm s.vm).topJava?.isSome := X.here.top
  have hF : ((T.setVm s.vm).setFrames (.invoking m args :: below)).frames = .invoking m args :: below := State.frames_setFrames _ (State.cur_lt_of_top htop)
  obtain ⟨g₀, hg0⟩ := Option.isSome_iff_exists.mp htop
  obtain ⟨r, hr⟩ := State.topJava?_eq_some.mp hg0
  have hl9 : e.platform.stackLimits (T.setVm s.vm).me = e.platform.stackLimits s.me := X.limits
  have hb9 : (T.setVm s.vm).me.stackBytes = s.me.stackBytes := X.bytes
  refine ⟨X.admits, X.cas, X.clock, hF, ?_, X.hears, X.method, X.code, X.here, X.tail, X.warmed, ?_, ?_, ?_⟩
  · have h := X.room
    have hU : ((T.setVm s.vm).setFrames (.invoking m args :: below)).localsInUse = s.localsInUse := by
      rw [State.localsInUse_invoking hF (meth := meth) (c := c) X.method X.code, State.localsInUse_invoking X.frames X.method X.code]
    simp only [State.hasRoom, Bool.and_eq_true, decide_eq_true_eq] at h ⊢
    obtain ⟨⟨⟨⟨h1, h2, h3, h4, h5, h6⟩, h7⟩, h8⟩, h9⟩ := h
    rw [X.frames, List.length_cons] at h2 h3
    have q1 := X.heapSize
    have q2 := X.used
    simp only [hF, hU, List.length_cons, State.stackLimits_setFrames, State.stackBytes_setFrames, hl9, hb9]
    refine ⟨⟨⟨⟨by omega, by omega, by omega, by omega, by omega, h6⟩, ?_⟩, ?_⟩, X.book⟩
    · show T.heap.size + R'.cells ≤ e.platform.maxCells
      omega
    · show T.slotsUsed + R'.slots ≤ e.platform.maxSlots
      omega
  · rw [State.stackLimits_setFrames]; rfl
  · rw [State.stackBytes_setFrames]; rfl
  · refine ⟨?_, Nat.le_refl _, Nat.le_refl _, ?_, ?_, fun a c9 h9 => ⟨c9, h9, rfl, rfl, fun _ _ => rfl⟩⟩
    · obtain ⟨t, ht, -⟩ := State.frames_cons hr
      show T.setVm s.vm = { ((T.setVm s.vm).setFrames (.invoking m args :: below)).setFrames (T.setVm s.vm).frames with heap := T.heap, slotsUsed := T.slotsUsed }
      rw [State.setFrames_setFrames, State.setFrames_self ht]
      rfl
    · show T.slotsUsed = T.slotsUsed + ((T.heap.toList.drop T.heap.size).map (·.slots.size)).sum
      rw [List.drop_eq_nil_of_le (Nat.le_of_eq Array.length_toList)]
      rfl
    · show ((T.heap.toList.drop T.heap.size).map (·.slots.size)).sum ≤ 0
      rw [List.drop_eq_nil_of_le (Nat.le_of_eq Array.length_toList)]
      exact Nat.le_refl _
/-- 'throw new E()': new; dup; invokespecial; athrow -/
theorem vx_throw0 {cc : ByteArray} {pc : Nat} (hexec : p.tables.exec = Jvm.exec) (hb : c.code = cc) (hl : l.stackTraces = false) {own cls : String} {names : List String} {ik ic mc ms : Nat} {A : Nat → Prop}
    (hown : s.vm.findClass own = some m.cls) (hcls : Bundle.fit cls = true) (hnames : ∀ n ∈ names, Bundle.fit n = true)
    (hk : (Cond.classLink own ik cls).before args s = true) (hini : (Cond.initialized cls).before args s = true) (hat : ∀ w ∈ vx_at0 own ic cls names, w.before args s = true)
    (hgood : ∀ w ∈ Cond.classLink own ik cls :: Cond.initialized cls :: vx_at0 own ic cls names, vx_ot w = true)
    (hU : vx_Zq Bundle.tN "UNASSIGNED_STACK" Bundle.steD A s s.heap) (hN : vx_Zq Bundle.tN "SUPPRESSED_SENTINEL" Bundle.listD A s s.heap) (hS : va_S A s.heap H locs) (hsize : ls.size = c.maxLocals)
    (d0 : decode cc pc = .ok (.new ik, 3)) (d3 : decode cc (pc + 3) = .ok (.dup, 1)) (d4 : decode cc (pc + 4) = .ok (.invokespecial ic, 3)) (d7 : decode cc (pc + 7) = .ok (.athrow, 1))
    (hout : ∀ x ∈ c.exceptionTable.toList, covers x (pc + 7) = false)
    (hRframes : names.length + 3 < R.frames) (hRlocals : (rest.map fun v => v.category).sum + (13 * (names.length + 1) + 42) ≤ R.locals) (hRcells : cells + 1 ≤ R.cells) (hRslots : slots + 6 ≤ R.slots) (hlocks : meth.locks = false)
    (hx : ∀ t : State, s.vm.Alike t.vm → H.size ≤ t.heap.size → (∀ q : Nat, q < H.size → t.heap[q]? = H[q]?) → XC cls s t)
    (hf : ∀ z ∈ locs, free z.base) (hc : cells + 1 ≤ mc) (hs : slots + 6 ≤ ms) :
    W p l e R s m args below meth c H locs cells slots (vx_MQ below Qc XC args s mc ms free) (F0 m pc ls rest) := by
  intro T hT X
  have htr : e.platform.stackTraces = false := (show e.platform.stackTraces = l.stackTraces by rw [X.admits.platform]).trans hl
  have Y := vx_rebase X (R' := { frames := R.frames, locals := R.locals, cells := 1, slots := 6 }) (Nat.le_refl _) (Nat.le_refl _) hRcells hRslots
  obtain ⟨s', hA⟩ : ∃ z, z = (T.setVm s.vm).setFrames (.invoking m args :: below) := ⟨_, rfl⟩
  rw [← hA] at Y
  have hvm : s'.vm = s.vm := by rw [hA]; rfl
  have hhp : s'.heap = H := by rw [hA]; exact hT
  have hW0 : s.WarmedH s'.vm := by rw [hvm]; exact State.WarmedH.refl s
  have hat' : ∀ w ∈ vx_at0 own ic cls names, w.before args s' = true := fun w hw => vx_ot_at hW0 hvm.symm (hgood w (List.mem_cons_of_mem _ (List.mem_cons_of_mem _ hw))) (hat w hw)
  have hk' : (Cond.classLink own ik cls).before args s' = true := vx_ot_at hW0 hvm.symm (hgood _ List.mem_cons_self) hk
  have hini' : (Cond.initialized cls).before args s' = true := vx_ot_at hW0 hvm.symm (hgood _ (List.mem_cons_of_mem _ List.mem_cons_self)) hini
  have hU' : vx_Zq Bundle.tN "UNASSIGNED_STACK" Bundle.steD A s' s'.heap := by rw [hhp]; exact vx_Zq.moved hW0.alike (hU.kept hS.2.1)
  have hN' : vx_Zq Bundle.tN "SUPPRESSED_SENTINEL" Bundle.listD A s' s'.heap := by rw [hhp]; exact vx_Zq.moved hW0.alike (hN.kept hS.2.1)
  have h : ∀ w ∈ Bundle.ownAtoms0 own ic cls names, w.before args s' = true := vx_own hat' (vx_isRefq hU'.1) (vx_isRefq hN'.1) hU'.2.word hN'.2.word
  have hown' : s'.vm.findClass own = some m.cls := by rw [hvm]; exact hown
  have hins : (Cond.instantiable cls 6).before args s' = true := h _ (by simp [Bundle.ownAtoms0])
  obtain ⟨vm₁, cX, kX, hfX, hkX, -, -, X₁, st1⟩ := Y.newCold hexec (own := own) (C := cls) (index := ik) (n := 6) hown' hk' hins hini'
    (g := F0 m pc ls rest) rfl (by rw [hb]; exact d0) (Nat.le_refl _) (Nat.le_refl _)
  generalize hT1 : (T.setVm vm₁).pushCell { cls := cX, slots := kX.instanceTypes.map defaultValue, vm := .none } = T1 at X₁ st1
  have hcat : (Value.ref T.heap.size).category = 1 := rfl
  have hcellA : T1.heap[T.heap.size]? = some (freshCell cX kX) := by rw [← hT1]; exact State.heap_pushCell_size _ _
  have d3' : decode c.code (pc + 3) = .ok (.dup, 1) := by rw [hb]; exact d3
  obtain ⟨U, hsteps, hrun, hend, hW, hsame, ce, hce, hO⟩ := X₁.ctorThrow0 hexec htr (own := own) (cls := cls) (names := names) (ic := ic) hown' hcls hnames h (fun x hx => nomatch hx) hfX hkX hcellA (by rw [hhp, hT]; exact Nat.le_refl _)
    (g := { method := m, pc := pc + 4, locals := ls, stack := .ref T.heap.size :: .ref T.heap.size :: rest, locked := none }) rfl hsize rfl rfl (rest := rest) rfl
    (by rw [hb]; exact d4) (by rw [hb]; exact d7) hout hRframes (by simp only [List.map_cons, List.sum_cons, hcat]; omega) hlocks
  obtain ⟨f1, f2⟩ := vx_frame hsame
  rw [hhp] at f1 f2
  have hWs : s.WarmedH U.vm := State.WarmedH.trans hW0 hW
  have hcl : s.vm.findClass cls = some ce.cls := by
    have h9 := hO.cls
    rw [hvm] at h9
    exact h9
  have hall : s.sameButNew ({ U with vm := s.vm } : State) locs mc ms := by
    subst hA
    obtain ⟨e1, e2⟩ := hsame
    rw [State.setFrames_setFrames] at e1
    have h2 : (T.setVm s.vm).sameButNew ({ U with vm := s.vm } : State) [] (0 + 1) (0 + 6) := ⟨e1, e2⟩
    have h3 := X.same.trans h2
    rw [List.append_nil] at h3
    exact h3.mono hc hs
  refine ⟨U, ?_, .threw T.heap.size, hrun, hend, Or.inr ⟨T.heap.size, rfl, cls, ce, locs, hx U hWs.alike f1 (fun q hq => f2 q hq (fun z hz => nomatch hz)), hce, hO.vm, hcl, hWs, hall, hf⟩⟩
  refine st1 _ ?_
  show Steps p.tables e below (T1.setTop { method := m, pc := pc + 3, locals := ls, stack := .ref T.heap.size :: rest, locked := none }) _
  jvm_step X₁.here [X₁.here.top, hexec, d3', Value.category]
  exact hsteps
/-- 'throw new E("text")': new; dup; ldc; invokespecial; athrow -/
theorem vx_throwS {cc : ByteArray} {pc : Nat} (hexec : p.tables.exec = Jvm.exec) (hb : c.code = cc) (hl : l.stackTraces = false) {own cls text : String} {names : List String} {ik is ic mc ms sa : Nat} {A : Nat → Prop}
    (hown : s.vm.findClass own = some m.cls) (hcls : Bundle.fit cls = true) (hnames : ∀ n ∈ names, Bundle.fit n = true)
    (hk : (Cond.classLink own ik cls).before args s = true) (hini : (Cond.initialized cls).before args s = true) (hstr : vk_R own is text sa s) (hat : ∀ w ∈ vx_atS own ic cls names, w.before args s = true)
    (hgood : ∀ w ∈ Cond.classLink own ik cls :: Cond.initialized cls :: vx_atS own ic cls names, vx_ot w = true)
    (hU : vx_Zq Bundle.tN "UNASSIGNED_STACK" Bundle.steD A s s.heap) (hN : vx_Zq Bundle.tN "SUPPRESSED_SENTINEL" Bundle.listD A s s.heap) (hS : va_S A s.heap H locs) (hsize : ls.size = c.maxLocals)
    (d0 : decode cc pc = .ok (.new ik, 3)) (d3 : decode cc (pc + 3) = .ok (.dup, 1)) (d4 : decode cc (pc + 4) = .ok (.ldc is, 2)) (d6 : decode cc (pc + 6) = .ok (.invokespecial ic, 3)) (d9 : decode cc (pc + 9) = .ok (.athrow, 1))
    (hout : ∀ x ∈ c.exceptionTable.toList, covers x (pc + 9) = false)
    (hRframes : names.length + 3 < R.frames) (hRlocals : (rest.map fun v => v.category).sum + (13 * (names.length + 1) + 43) ≤ R.locals) (hRcells : cells + 1 ≤ R.cells) (hRslots : slots + 6 ≤ R.slots) (hlocks : meth.locks = false)
    (hx : ∀ t : State, s.vm.Alike t.vm → H.size ≤ t.heap.size → (∀ q : Nat, q < H.size → t.heap[q]? = H[q]?) → XC cls s t)
    (hf : ∀ z ∈ locs, free z.base) (hc : cells + 1 ≤ mc) (hs : slots + 6 ≤ ms) :
    W p l e R s m args below meth c H locs cells slots (vx_MQ below Qc XC args s mc ms free) (F0 m pc ls rest) := by
  intro T hT X
  have htr : e.platform.stackTraces = false := (show e.platform.stackTraces = l.stackTraces by rw [X.admits.platform]).trans hl
  have Y := vx_rebase X (R' := { frames := R.frames, locals := R.locals, cells := 1, slots := 6 }) (Nat.le_refl _) (Nat.le_refl _) hRcells hRslots
  obtain ⟨s', hA⟩ : ∃ z, z = (T.setVm s.vm).setFrames (.invoking m args :: below) := ⟨_, rfl⟩
  rw [← hA] at Y
  have hvm : s'.vm = s.vm := by rw [hA]; rfl
  have hhp : s'.heap = H := by rw [hA]; exact hT
  have hW0 : s.WarmedH s'.vm := by rw [hvm]; exact State.WarmedH.refl s
  have hat' : ∀ w ∈ vx_atS own ic cls names, w.before args s' = true := fun w hw => vx_ot_at hW0 hvm.symm (hgood w (List.mem_cons_of_mem _ (List.mem_cons_of_mem _ hw))) (hat w hw)
  have hk' : (Cond.classLink own ik cls).before args s' = true := vx_ot_at hW0 hvm.symm (hgood _ List.mem_cons_self) hk
  have hini' : (Cond.initialized cls).before args s' = true := vx_ot_at hW0 hvm.symm (hgood _ (List.mem_cons_of_mem _ List.mem_cons_self)) hini
  have hU' : vx_Zq Bundle.tN "UNASSIGNED_STACK" Bundle.steD A s' s'.heap := by rw [hhp]; exact vx_Zq.moved hW0.alike (hU.kept hS.2.1)
  have hN' : vx_Zq Bundle.tN "SUPPRESSED_SENTINEL" Bundle.listD A s' s'.heap := by rw [hhp]; exact vx_Zq.moved hW0.alike (hN.kept hS.2.1)
  have h : ∀ w ∈ Bundle.ownAtoms own ic cls names, w.before args s' = true := vx_own hat' (vx_isRefq hU'.1) (vx_isRefq hN'.1) hU'.2.word hN'.2.word
  have hown' : s'.vm.findClass own = some m.cls := by rw [hvm]; exact hown
  have hins : (Cond.instantiable cls 6).before args s' = true := h _ (by simp [Bundle.ownAtoms])
  obtain ⟨vm₁, cX, kX, hfX, hkX, -, -, X₁, st1⟩ := Y.newCold hexec (own := own) (C := cls) (index := ik) (n := 6) hown' hk' hins hini'
    (g := F0 m pc ls rest) rfl (by rw [hb]; exact d0) (Nat.le_refl _) (Nat.le_refl _)
  generalize hT1 : (T.setVm vm₁).pushCell { cls := cX, slots := kX.instanceTypes.map defaultValue, vm := .none } = T1 at X₁ st1
  have hcat : (Value.ref T.heap.size).category = 1 := rfl
  have hcellA : T1.heap[T.heap.size]? = some (freshCell cX kX) := by rw [← hT1]; exact State.heap_pushCell_size _ _
  have d3' : decode c.code (pc + 3) = .ok (.dup, 1) := by rw [hb]; exact d3
  have d4' : decode c.code (pc + 4) = .ok (.ldc is, 2) := by rw [hb]; exact d4
  have hstr' : vk_R own is text sa s' := vk_R.warm hW0 hstr
  obtain ⟨U, hsteps, hrun, hend, hW, hsame, ce, hce, hO⟩ := X₁.ctorThrowS hexec htr (own := own) (cls := cls) (names := names) (ic := ic) hown' hcls hnames h (fun x hx => nomatch hx) hfX hkX hcellA (by rw [hhp, hT]; exact Nat.le_refl _) (msg := .ref sa) rfl
    (g := { method := m, pc := pc + 6, locals := ls, stack := .ref sa :: .ref T.heap.size :: .ref T.heap.size :: rest, locked := none }) rfl hsize rfl rfl (rest := rest) rfl
    (by rw [hb]; exact d6) (by rw [hb]; exact d9) hout hRframes (by simp only [List.map_cons, List.sum_cons, hcat]; omega) hlocks
  obtain ⟨f1, f2⟩ := vx_frame hsame
  rw [hhp] at f1 f2
  have hWs : s.WarmedH U.vm := State.WarmedH.trans hW0 hW
  have hcl : s.vm.findClass cls = some ce.cls := by
    have h9 := hO.cls
    rw [hvm] at h9
    exact h9
  have hall : s.sameButNew ({ U with vm := s.vm } : State) locs mc ms := by
    subst hA
    obtain ⟨e1, e2⟩ := hsame
    rw [State.setFrames_setFrames] at e1
    have h2 : (T.setVm s.vm).sameButNew ({ U with vm := s.vm } : State) [] (0 + 1) (0 + 6) := ⟨e1, e2⟩
    have h3 := X.same.trans h2
    rw [List.append_nil] at h3
    exact h3.mono hc hs
  refine ⟨U, ?_, .threw T.heap.size, hrun, hend, Or.inr ⟨T.heap.size, rfl, cls, ce, locs, hx U hWs.alike f1 (fun q hq => f2 q hq (fun z hz => nomatch hz)), hce, hO.vm, hcl, hWs, hall, hf⟩⟩
  refine st1 _ ?_
  show Steps p.tables e below (T1.setTop { method := m, pc := pc + 3, locals := ls, stack := .ref T.heap.size :: rest, locked := none }) _
  jvm_step X₁.here [X₁.here.top, hexec, d3', Value.category]
  exact X₁.ldcString hexec (own := own) (text := text) (index := is) (a := sa) hown' hstr'.1 hstr'.2
    (g := { method := m, pc := pc + 4, locals := ls, stack := .ref T.heap.size :: .ref T.heap.size :: rest, locked := none }) rfl d4' _ hsteps
/-- 'throw new E("text")', the text by a wide index -/
theorem vx_throwSW {cc : ByteArray} {pc : Nat} (hexec : p.tables.exec = Jvm.exec) (hb : c.code = cc) (hl : l.stackTraces = false) {own cls text : String} {names : List String} {ik is ic mc ms sa : Nat} {A : Nat → Prop}
    (hown : s.vm.findClass own = some m.cls) (hcls : Bundle.fit cls = true) (hnames : ∀ n ∈ names, Bundle.fit n = true)
    (hk : (Cond.classLink own ik cls).before args s = true) (hini : (Cond.initialized cls).before args s = true) (hstr : vk_R own is text sa s) (hat : ∀ w ∈ vx_atS own ic cls names, w.before args s = true)
    (hgood : ∀ w ∈ Cond.classLink own ik cls :: Cond.initialized cls :: vx_atS own ic cls names, vx_ot w = true)
    (hU : vx_Zq Bundle.tN "UNASSIGNED_STACK" Bundle.steD A s s.heap) (hN : vx_Zq Bundle.tN "SUPPRESSED_SENTINEL" Bundle.listD A s s.heap) (hS : va_S A s.heap H locs) (hsize : ls.size = c.maxLocals)
    (d0 : decode cc pc = .ok (.new ik, 3)) (d3 : decode cc (pc + 3) = .ok (.dup, 1)) (d4 : decode cc (pc + 4) = .ok (.ldc_w is, 3)) (d7 : decode cc (pc + 7) = .ok (.invokespecial ic, 3)) (d10 : decode cc (pc + 10) = .ok (.athrow, 1))
    (hout : ∀ x ∈ c.exceptionTable.toList, covers x (pc + 10) = false)
    (hRframes : names.length + 3 < R.frames) (hRlocals : (rest.map fun v => v.category).sum + (13 * (names.length + 1) + 43) ≤ R.locals) (hRcells : cells + 1 ≤ R.cells) (hRslots : slots + 6 ≤ R.slots) (hlocks : meth.locks = false)
    (hx : ∀ t : State, s.vm.Alike t.vm → H.size ≤ t.heap.size → (∀ q : Nat, q < H.size → t.heap[q]? = H[q]?) → XC cls s t)
    (hf : ∀ z ∈ locs, free z.base) (hc : cells + 1 ≤ mc) (hs : slots + 6 ≤ ms) :
    W p l e R s m args below meth c H locs cells slots (vx_MQ below Qc XC args s mc ms free) (F0 m pc ls rest) := by
  intro T hT X
  have htr : e.platform.stackTraces = false := (show e.platform.stackTraces = l.stackTraces by rw [X.admits.platform]).trans hl
  have Y := vx_rebase X (R' := { frames := R.frames, locals := R.locals, cells := 1, slots := 6 }) (Nat.le_refl _) (Nat.le_refl _) hRcells hRslots
  obtain ⟨s', hA⟩ : ∃ z, z = (T.setVm s.vm).setFrames (.invoking m args :: below) := ⟨_, rfl⟩
  rw [← hA] at Y
  have hvm : s'.vm = s.vm := by rw [hA]; rfl
  have hhp : s'.heap = H := by rw [hA]; exact hT
  have hW0 : s.WarmedH s'.vm := by rw [hvm]; exact State.WarmedH.refl s
  have hat' : ∀ w ∈ vx_atS own ic cls names, w.before args s' = true := fun w hw => vx_ot_at hW0 hvm.symm (hgood w (List.mem_cons_of_mem _ (List.mem_cons_of_mem _ hw))) (hat w hw)
  have hk' : (Cond.classLink own ik cls).before args s' = true := vx_ot_at hW0 hvm.symm (hgood _ List.mem_cons_self) hk
  have hini' : (Cond.initialized cls).before args s' = true := vx_ot_at hW0 hvm.symm (hgood _ (List.mem_cons_of_mem _ List.mem_cons_self)) hini
  have hU' : vx_Zq Bundle.tN "UNASSIGNED_STACK" Bundle.steD A s' s'.heap := by rw [hhp]; exact vx_Zq.moved hW0.alike (hU.kept hS.2.1)
  have hN' : vx_Zq Bundle.tN "SUPPRESSED_SENTINEL" Bundle.listD A s' s'.heap := by rw [hhp]; exact vx_Zq.moved hW0.alike (hN.kept hS.2.1)
  have h : ∀ w ∈ Bundle.ownAtoms own ic cls names, w.before args s' = true := vx_own hat' (vx_isRefq hU'.1) (vx_isRefq hN'.1) hU'.2.word hN'.2.word
  have hown' : s'.vm.findClass own = some m.cls := by rw [hvm]; exact hown
  have hins : (Cond.instantiable cls 6).before args s' = true := h _ (by simp [Bundle.ownAtoms])
  obtain ⟨vm₁, cX, kX, hfX, hkX, -, -, X₁, st1⟩ := Y.newCold hexec (own := own) (C := cls) (index := ik) (n := 6) hown' hk' hins hini'
    (g := F0 m pc ls rest) rfl (by rw [hb]; exact d0) (Nat.le_refl _) (Nat.le_refl _)
  generalize hT1 : (T.setVm vm₁).pushCell { cls := cX, slots := kX.instanceTypes.map defaultValue, vm := .none } = T1 at X₁ st1
  have hcat : (Value.ref T.heap.size).category = 1 := rfl
  have hcellA : T1.heap[T.heap.size]? = some (freshCell cX kX) := by rw [← hT1]; exact State.heap_pushCell_size _ _
  have d3' : decode c.code (pc + 3) = .ok (.dup, 1) := by rw [hb]; exact d3
  have d4' : decode c.code (pc + 4) = .ok (.ldc_w is, 3) := by rw [hb]; exact d4
  have hstr' : vk_R own is text sa s' := vk_R.warm hW0 hstr
  obtain ⟨U, hsteps, hrun, hend, hW, hsame, ce, hce, hO⟩ := X₁.ctorThrowS hexec htr (own := own) (cls := cls) (names := names) (ic := ic) hown' hcls hnames h (fun x hx => nomatch hx) hfX hkX hcellA (by rw [hhp, hT]; exact Nat.le_refl _) (msg := .ref sa) rfl
    (g := { method := m, pc := pc + 7, locals := ls, stack := .ref sa :: .ref T.heap.size :: .ref T.heap.size :: rest, locked := none }) rfl hsize rfl rfl (rest := rest) rfl
    (by rw [hb]; exact d7) (by rw [hb]; exact d10) hout hRframes (by simp only [List.map_cons, List.sum_cons, hcat]; omega) hlocks
  obtain ⟨f1, f2⟩ := vx_frame hsame
  rw [hhp] at f1 f2
  have hWs : s.WarmedH U.vm := State.WarmedH.trans hW0 hW
  have hcl : s.vm.findClass cls = some ce.cls := by
    have h9 := hO.cls
    rw [hvm] at h9
    exact h9
  have hall : s.sameButNew ({ U with vm := s.vm } : State) locs mc ms := by
    subst hA
    obtain ⟨e1, e2⟩ := hsame
    rw [State.setFrames_setFrames] at e1
    have h2 : (T.setVm s.vm).sameButNew ({ U with vm := s.vm } : State) [] (0 + 1) (0 + 6) := ⟨e1, e2⟩
    have h3 := X.same.trans h2
    rw [List.append_nil] at h3
    exact h3.mono hc hs
  refine ⟨U, ?_, .threw T.heap.size, hrun, hend, Or.inr ⟨T.heap.size, rfl, cls, ce, locs, hx U hWs.alike f1 (fun q hq => f2 q hq (fun z hz => nomatch hz)), hce, hO.vm, hcl, hWs, hall, hf⟩⟩
  refine st1 _ ?_
  show Steps p.tables e below (T1.setTop { method := m, pc := pc + 3, locals := ls, stack := .ref T.heap.size :: rest, locked := none }) _
  jvm_step X₁.here [X₁.here.top, hexec, d3', Value.category]
  exact X₁.ldcStringW hexec (own := own) (text := text) (index := is) (a := sa) hown' hstr'.1 hstr'.2
    (g := { method := m, pc := pc + 4, locals := ls, stack := .ref T.heap.size :: .ref T.heap.size :: rest, locked := none }) rfl d4' _ hsteps
end Ends
section Bodies
variable {l : Launch}
theorem vx_ofW {y : MethodName} {ws ws' : List Cond} {rm : Room} {Pc : Array Value → State → Prop} {Qc : Array Value → State → Outcome → State → Prop} {XC : String → State → State → Prop} {mc ms : Nat} {free : Addr → Prop} {cc : ByteArray} {maxL : Nat} {ret : Option FieldType}
    (hy : plainName y.cls = true) (hw : ws = Cond.code y cc maxL ret :: ws')
    (body : ∀ p e s m args below meth c s₁, BodyLoose p l y (headSpec ws rm) cc maxL ret e s m args below meth c s₁ → c.maxLocals = maxL → (∀ x ∈ c.exceptionTable.toList, False) → Pc args s →
      W p l e (headSpec ws rm).room s m args below meth c s.heap [] 0 0 (vx_MQ below Qc XC args s mc ms free) (entryFrame m args maxL)) : vx_Met l y ws rm Pc Qc XC mc ms free := by
  refine MetFree.of_bodyS (code := cc) (maxLocals := maxL) (ret := ret) hy ?_ ?_
  · intro args s m h hn
    obtain ⟨meth, c, h1, h2, h3, h4, h5, h6, -, -⟩ := Cond.code_spec hn (atoms_spec (ws := ws) h _ (by rw [hw]; exact List.mem_cons_self))
    exact ⟨meth, c, h1, h2, h3, h4, h5, h6⟩
  · intro p e s m args below meth c s₁ B hml hP _
    have hh0 : s₁.heap = s.heap := by rw [B.state]; rfl
    have ht : ∀ x ∈ c.exceptionTable.toList, False := by
      obtain ⟨meth9, c9, h1, h2, -, -, -, -, h7, -⟩ := Cond.code_spec B.named (atoms_spec (ws := ws) B.pre _ (by rw [hw]; exact List.mem_cons_self))
      cases Option.some.inj (h1.symm.trans B.method)
      cases Option.some.inj (h2.symm.trans (Stand.of_body B).code)
      intro x hx
      rw [Array.isEmpty_iff.mp h7] at hx
      cases hx
    obtain ⟨t, a1, o, b1, b2, b3⟩ := body p e s m args below meth c s₁ B hml ht hP s₁ hh0 (Stand.of_body B)
    exact ⟨t, o, a1, b1, b2, b3⟩
/-- the table of a body with handlers -/
theorem vx_table {p : Program} {x y : MethodName} {S : Spec} {cc bytes : ByteArray} {maxL maxL' : Nat} {ret ret' : Option FieldType} {e : Env} {s s₁ : State} {m : MethodId} {args : Array Value} {below : List Frame} {meth : Method} {c : Code} {hh : List (Nat × Nat × Nat × Nat)}
    (B : BodyLoose p l y S cc maxL ret e s m args below meth c s₁) (h : (Cond.codeWith y bytes maxL' ret' hh).before args s = true) : c.exceptionTable.toList = tableOf hh := by
  obtain ⟨m9, meth9, c9, hn9, h1, h2, -, -, h6, -⟩ := Cond.codeWith_spec h
  cases Option.some.inj (hn9.symm.trans B.named)
  cases Option.some.inj (h1.symm.trans B.method)
  cases Option.some.inj (h2.symm.trans (Stand.of_body B).code)
  rw [← h6, table_eq]
end Bodies
end VXA
/-! ===== END ===== -/
/-! ===== BEGIN a static call of a method with an exception table ===== -/
section VXS
variable {p : Program} {l : Launch} {e : Env} {R : Room} {s : State} {m : MethodId} {args : Array Value} {below : List Frame} {meth : Method} {c : Code} {T : State} {H : Heap} {locs : List Loc} {cells slots : Nat}
abbrev vx_CSW (R : Room) (s : State) (args : Array Value) (own : String) (index : Nat) (y : MethodName) (bytes : ByteArray) (maxL : Nat) (ret : Option FieldType) (hh : List (Nat × Nat × Nat × Nat)) (ws : List Cond) (rm : Room) (mc ms n : Nat) : Prop :=
  (rm.cells = mc ∧ rm.slots = ms ∧ rm.frames + 1 ≤ R.frames ∧ 8 + (maxL + 11) + rm.locals ≤ R.locals ∧ (∀ w ∈ ws, ∀ (a' : Array Value) (U : State), s.WarmedH U.vm → w.before a' U = true) ∧ Cond.codeWith y bytes maxL ret hh ∈ ws) ∧
  (Cond.codeWith y bytes maxL ret hh).before args s = true ∧ (Cond.initialized y.cls).before args s = true ∧ (y.cls ≠ "java/lang/invoke/MethodHandle" ∧ y.cls ≠ "java/lang/invoke/VarHandle") ∧
  (∀ sig, parseMethodDescriptor y.desc = some sig → n = sig.parameters.length) ∧ (Cond.methodLink own index y).before args s = true ∧ (Cond.static y).before args s = true
theorem vx_cwSW {own : String} {index maxL mc ms : Nat} {y : MethodName} {bytes : ByteArray} {ret : Option FieldType} {hh : List (Nat × Nat × Nat × Nat)} {Ts ws ws' : List Cond} {rm : Room} (n : Nat) (ht : ∀ w ∈ Ts, w.before args s = true) (hT : GoodIn Ts (va_wsS own index y ws)) (hw : ws = Cond.codeWith y bytes maxL ret hh :: ws') (hrc : rm.cells = mc) (hrs : rm.slots = ms)
    (hd : y.cls ≠ "java/lang/invoke/MethodHandle" ∧ y.cls ≠ "java/lang/invoke/VarHandle" ∧ (parseMethodDescriptor y.desc).map (fun d => d.parameters.length) = some n) (hR : rm.frames + 1 ≤ R.frames ∧ 8 + (maxL + 11) + rm.locals ≤ R.locals) :
    vx_CSW R s args own index y bytes maxL ret hh ws rm mc ms n := by
  have ok : ∀ w ∈ va_wsS own index y ws, w.before args s = true := fun w h => ht w (hT w h).1
  have hG : GoodIn Ts ws := fun w h => hT w (by unfold va_wsS; exact List.mem_append_right _ h)
  have hc : Cond.codeWith y bytes maxL ret hh ∈ ws := by rw [hw]; exact List.mem_cons_self
  refine ⟨⟨hrc, hrs, hR.1, hR.2, pay_in ht hG, hc⟩, ht _ (hG _ hc).1, ok _ (by simp [va_wsS]), ⟨hd.1, hd.2.1⟩, fun sig h => ?_, ok _ (by simp [va_wsS]), ok _ (by simp [va_wsS])⟩
  have h2 := hd.2.2
  rw [h] at h2
  exact (Option.some.inj h2).symm
theorem vx_callSW (X : Stand p l e R s m args below meth c T locs cells slots) (hexec : p.tables.exec = Jvm.exec) {own : String} {index : Nat} {y : MethodName} {bytes : ByteArray} {maxL : Nat} {ret : Option FieldType} {hh : List (Nat × Nat × Nat × Nat)}
    (hown : s.vm.findClass own = some m.cls) (hlink : (Cond.methodLink own index y).before args s = true) (hstat : (Cond.static y).before args s = true) (hinit : (Cond.initialized y.cls).before args s = true)
    (hcode : (Cond.codeWith y bytes maxL ret hh).before args s = true) (hy : y.cls ≠ "java/lang/invoke/MethodHandle" ∧ y.cls ≠ "java/lang/invoke/VarHandle")
    {W9 : Nat} {Pre : Pt → Array Value → Prop} {Post : Pt → Array Value → Option Value → Pt → Prop} (hK : Back l R p e below s args y 3 W9 Pre Post)
    {g : JFrame} (hg : g.method = m) (hsize : g.locals.size = c.maxLocals) {argsL rest : List Value} (hlen : ∀ sig, parseMethodDescriptor y.desc = some sig → argsL.length = sig.parameters.length)
    (hstack : g.stack = argsL.reverse ++ rest) (hW : 2 * g.monitorRoom + (rest.map fun v => v.category).sum ≤ W9) (hdg : decode c.code g.pc = .ok (.invokestatic index, 3))
    (hpre : ∀ vm₁, s.WarmedH vm₁ → Pre ⟨T.setVm vm₁, locs, cells, slots⟩ argsL.toArray) :
    ∃ (v : Option Value) (vm₁ : Vm) (B : Pt), s.WarmedH vm₁ ∧ Stand p l e R s m args below meth c B.U B.locs B.cells B.slots ∧ Post ⟨T.setVm vm₁, locs, cells, slots⟩ argsL.toArray v B ∧
      ∀ target, Steps p.tables e below (B.U.setTop { g with pc := g.pc + 3, stack := v.toList ++ rest }) target → Steps p.tables e below (T.setTop g) target := by
  obtain ⟨mk, methM, cM, hnamed, hmethM, -, -, -, -, -, -, hsigM⟩ := Cond.codeWith_spec hcode
  have hstatic : methM.isStatic = true := Cond.static_spec hnamed hmethM hstat
  obtain ⟨kP, hkP, -⟩ := className_of_methodNamed hnamed
  have hinitP : kP.init = .initialized := Cond.initialized_spec (findClass_of_methodNamed hnamed) hkP hinit
  obtain ⟨vm₁, X₁, hstep₁⟩ := X.invokestatic hexec hown hlink hnamed hmethM hstatic hkP hinitP hy (g := g) hg (argsL := argsL) (rest := rest) (hlen _ hsigM) hstack hdg
  obtain ⟨v, B, X', hpost, hsteps⟩ := hK m meth c ⟨T.setVm vm₁, locs, cells, slots⟩ { g with stack := rest } (.invokestatic index) mk argsL.toArray X₁ hg hsize hdg hW (X₁.named hnamed) (hpre vm₁ X₁.warmed)
  exact ⟨v, vm₁, B, X₁.warmed, X', hpost, fun target h => hstep₁ _ fun acts => by rw [doInvoke_state]; exact hsteps.trans h⟩
theorem vx_runSW {y : MethodName} {bytes cc : ByteArray} {maxL nL mc ms n index : Nat} {ret : Option FieldType} {hh : List (Nat × Nat × Nat × Nat)} {ws : List Cond} {rm : Room} {Pc : Array Value → State → Prop} {Qc : Array Value → State → Outcome → State → Prop} {free : Addr → Prop} {Ts : List Cond} {own : String} {As rest : List Value} {g : JFrame}
    (S : CallFix p m c cc nL s args Ts own) (hM : Met l y ws rm Pc Qc mc ms free) (cw : vx_CSW R s args own index y bytes maxL ret hh ws rm mc ms n) (hp : PreS s H Pc As)
    (hg : g.method = m) (hn : As.length = n) (hsize : g.locals.size = nL) (hstack : g.stack = As.reverse ++ rest) (hW : 2 * g.monitorRoom + (rest.map fun v => v.category).sum ≤ 8) (hdg : decode cc g.pc = .ok (.invokestatic index, 3)) (hf : cells + mc ≤ R.cells ∧ slots + ms ≤ R.slots) :
    va_Run p l e R s m args below meth c H locs cells slots mc ms g rest (Qc As.toArray) (free) := by
  obtain ⟨⟨hrc, hrs, hfr, hlo, hws, hcw⟩, hcode, hini, hy, hlen, hl, hstt⟩ := cw
  have hK : Back l R p e below s args y 3 8 (PreOf R mc ms Pc) (PostOf Qc mc ms free) := va_backW (hh := hh) (bytes := bytes) (maxL := maxL) (ret := ret) hM hp.1 hrc hrs hfr hlo hws hcw (fun a' U hW => word_at hW (Or.inl (by first | rfl | simp [Cond.onTables, Cond.keeps, Cond.steady])) hini)
  obtain ⟨hx, hb, hml, ho, -⟩ := S
  intro T hT X
  obtain ⟨v, vm₁, ⟨U', l2, c2, s2⟩, hW₁, X', ⟨g', mk, t, L, e1, e2, hq, h1, hL, h2, h3⟩, st⟩ := vx_callSW X hx (hh := hh) (bytes := bytes) (maxL := maxL) (ret := ret) ho hl hstt hini hcode hy hK hg (hsize.trans hml.symm) (argsL := As) (rest := rest) (fun sig h => hn.trans (hlen sig h)) hstack hW (by rw [hb]; exact hdg)
    (fun vm₁ hW₁ => ⟨hf.1, hf.2, hp.2 (T.setVm vm₁) hT hW₁⟩)
  dsimp only [Pt.U, Pt.locs, Pt.cells, Pt.slots] at X' e1 e2 h1 h2 h3 st
  subst h1; subst h2; subst h3
  exact ⟨v, (T.setVm vm₁).calling g' mk As.toArray, t, U', L, hT, X', hL, e1, e2, hq, st⟩
/-- not caught here, past rows that name other classes: it goes on to the caller -/
theorem vx_outP {p : Program} {l : Launch} {e : Env} {R : Room} {s : State} {m : MethodId} {args : Array Value} {below : List Frame} {meth : Method} {c : Code} {H : Heap} {locs : List Loc} {cells slots : Nat} {free : Addr → Prop} {ls : Array Slot} {rest : List Value} {Qc : Array Value → State → Outcome → State → Prop} {XC : String → State → State → Prop}
    {pc : Nat} {own E : String} {ce : Cell} {q : Addr} {mc ms : Nat} (hown : s.vm.findClass own = some m.cls) (hlocks : meth.locks = false)
    (hpass : ∀ z ∈ c.exceptionTable.toList, covers z pc = false ∨ (z.catchType ≠ 0 ∧ ∃ nm : String, (Cond.classLink own z.catchType nm).before args s = true ∧ va_Nc E nm s)) (hcell : H[q]? = some ce) (hv : ce.vm = .none) (hcl : s.vm.findClass E = some ce.cls)
    (hx : ∀ t : State, t.heap = H → s.vm.Alike t.vm → XC E s t) (hf : ∀ z ∈ locs, free z.base) (hc : cells ≤ mc) (hs : slots ≤ ms) :
    vx_W p l e R s m args below meth c H locs cells slots (vx_MQ below Qc XC args s mc ms free) (F0 m pc ls rest) q := by
  intro T hT X
  have hpl : e.platform.magicAccessors = ({} : Platform).magicAccessors := by rw [X.admits.platform]
  obtain ⟨vm', hW', X', st⟩ := X.outThrough hlocks q (g := F0 m pc ls rest) rfl rfl rfl (cell := ce) (by rw [hT]; exact hcell) (by rw [hv]; rfl)
    (by obtain ⟨k9, h9, -⟩ := Vm.findClass_spec hcl; exact ⟨k9, h9⟩) (fun z hz => by
      rcases hpass z hz with h | ⟨hz0, nm, hl1, hn1⟩
      · exact Or.inl h
      · obtain ⟨c6, hc6, hcl6⟩ := Cond.classLink_spec hown hl1 e.platform hpl
        obtain ⟨a8, b8, h1, h2, h3⟩ := hn1
        cases Option.some.inj (h1.symm.trans hcl)
        cases Option.some.inj (h2.symm.trans hc6)
        exact Or.inr ⟨hz0, _, hcl6, h3⟩)
  obtain ⟨g₀, hfr⟩ := X'.frames_eq
  have hcell9 : ((T.setVm vm').setFrames (.throwing q :: below)).heap[q]? = some ce := by
    show T.heap[q]? = some ce
    rw [hT]; exact hcell
  have hend : Ended ((T.setVm vm').setFrames (.throwing q :: below)) below (.threw q) := State.frames_setFrames _ (State.cur_lt_of_frames hfr)
  refine ⟨(T.setVm vm').setFrames (.throwing q :: below), ?_, .threw q, X'.here.running, hend, Or.inr ⟨q, rfl, E, ce, locs, hx _ hT (X'.ends _).1.alike, hcell9, hv, hcl, (X'.ends _).1, (X'.ends _).2.mono hc hs, hf⟩⟩
  rw [X.pushThrowing_eq]
  exact st
/-- a thing of a world lies in the heap -/
theorem vx_lt {D : va_G} {cl : List vw_C} {ws : va_W} {H1 : Heap} (h : va_P D cl ws H1) {k : Nat} {q : Nat × va_E} (hk : ws[k]? = some q) : q.1 < H1.size := (h k q hk).lt
end VXS
/-! ===== END ===== -/
/-! ===== BEGIN methods with a table of their own: called by a name, returning or throwing ===== -/
section VXH
/-! vx_backW, vx_callVX, vx_callSX, vx_callVW, vx_runVW, vx_runVX, vx_runSX, vx_ofWH follow the same proofs as their sisters above (Free/Laws.lean, Shelf42/LK1.lean); vx_outP calls Shelf42/NT130.lean (outThrough). -/
section
variable {l : Launch} {R : Room} {p : Program} {e : Env} {below : List Frame} {s : State} {sargs : Array Value} {y : MethodName} {len W9 : Nat}
theorem vx_backW {ws : List Cond} {rm : Room} {Pc : Array Value → State → Prop} {Qc : Array Value → State → Outcome → State → Prop} {XC : String → State → State → Prop} {mc ms : Nat} {free : Addr → Prop} {bytes : ByteArray} {maxL : Nat} {ret : Option FieldType} {hh : List (Nat × Nat × Nat × Nat)}
    (hM : vx_Met l y ws rm Pc Qc XC mc ms free) (hblind : FrameBlind Pc) (hrc : rm.cells = mc) (hrs : rm.slots = ms)
    (hframes : rm.frames + 1 ≤ R.frames) (hlocals : W9 + (maxL + 11) + rm.locals ≤ R.locals)
    (hws : ∀ w ∈ ws, ∀ a' U, s.WarmedH U.vm → w.before a' U = true) (hcode : Cond.codeWith y bytes maxL ret hh ∈ ws) (hinit : ∀ a' U, s.WarmedH U.vm → (Cond.initialized y.cls).before a' U = true) :
    vx_Back l R p e below s sargs y len W9 (PreOf R mc ms Pc) (PostOf Qc mc ms free) (vx_Post XC mc ms free) := by
  intro m meth c A g ig mk a X hg hsize hdg hW hn hp
  have h1 : (headSpec ws rm).pre.before a A.U = true := atoms_intro fun w hw => hws w hw _ _ X.warmed
  have h2 : (Cond.codeWith y bytes maxL ret hh).before a A.U = true := hws _ hcode _ _ X.warmed
  have h3 : (Cond.initialized y.cls).before a A.U = true := hinit _ _ X.warmed
  have h4 : A.cells + (headSpec ws rm).room.cells ≤ R.cells := by rw [show (headSpec ws rm).room.cells = mc from hrc]; exact hp.1
  have h5 : A.slots + (headSpec ws rm).room.slots ≤ R.slots := by rw [show (headSpec ws rm).room.slots = ms from hrs]; exact hp.2.1
  have hPc : Pc a (A.U.calling g mk a) := hblind _ _ _ _ hp.2.2
  obtain ⟨U, Ls, c0, s0⟩ := A
  dsimp only [Pt.U, Pt.locs, Pt.cells, Pt.slots] at h1 h2 h3 h4 h5 X hn hPc ⊢
  obtain ⟨m9, methY, cY, hn9, hmY, hcY, -, hlY, -⟩ := Cond.codeWith_spec h2
  cases Option.some.inj (hn9.symm.trans hn)
  obtain ⟨kY, hkY, -⟩ := className_of_methodNamed hn
  have hinitY : kY.init = .initialized := Cond.initialized_spec (findClass_of_methodNamed hn) hkY h3
  have h : At U g.method c below := by rw [hg]; exact X.here
  have hlocals9 : W9 + (maxL + 11) + (headSpec ws rm).room.locals ≤ R.locals := hlocals
  have happ : (headSpec ws rm).appliesLoose y e.platform (U.calling g mk a) = true :=
    Spec.appliesLoose_calling (g := g) h hdg hn hkY hinitY
      (X.room_calling (g := g) (R' := (headSpec ws rm).room) hsize hmY hcY hframes (by rw [hlY]; omega) h4 h5) h1
  obtain ⟨mid, hmid⟩ := h.above
  have hfr : (U.setTop g).frames = (.java g :: mid) ++ below := by rw [State.frames_setTop' g h.top, hmid]; rfl
  obtain ⟨o, s₂, hsteps, -, hend, hq⟩ := Steps.callFree hM p X.admits X.cas X.clock (acts := []) hfr happ hPc trivial
  have hq' : vx_Q Qc XC mc ms free a (U.calling g mk a) o s₂ := hq
  rw [State.frames_setTop' g h.top] at hend
  obtain ⟨g₀, hg0⟩ := Option.isSome_iff_exists.mp h.top
  obtain ⟨r, hr⟩ := State.topJava?_eq_some.mp hg0
  have hr' : (({ U with heap := s₂.heap, slotsUsed := s₂.slotsUsed } : State).setVm s₂.vm).frames = .java g₀ :: r := hr
  rcases hq' with ⟨hqc, L, hfe, hL⟩ | ⟨q, rfl, E, ce, L, hx, hce, hcv, hcl, hW₂, hsm, hL⟩
  · obtain ⟨⟨v, rfl⟩, hW₂, e2, q2, q3, q4, q5, q6⟩ := id hfe
    have e3 : s₂ = ({ (U.calling g mk a).setFrames s₂.frames with heap := s₂.heap, slotsUsed := s₂.slotsUsed } : State).setVm s₂.vm := by
      have : s₂ = ({ s₂ with vm := (U.calling g mk a).vm } : State).setVm s₂.vm := rfl
      rw [e2] at this
      exact this
    obtain ⟨c₂, i₂, len₂, hc₂, hd₂, hf₂⟩ := hend
    have hW' : U.WarmedH s₂.vm := hW₂
    have hcc : c₂ = c := by
      have h1 : s₂.code? g.method = U.code? g.method := by
        rw [State.code?_eq, State.code?_eq, hW'.alike.method?]
      exact Option.some.inj (hc₂.symm.trans (h1.trans h.code))
    subst hcc
    have hlen : len₂ = len := by rw [hdg] at hd₂; cases hd₂; rfl
    subst hlen
    have hs₂ : s₂ = (({ U with heap := s₂.heap, slotsUsed := s₂.slotsUsed } : State).setVm s₂.vm).setTop { g with pc := g.pc + len₂, stack := v.toList ++ g.stack } := by
      refine e3.trans ?_
      rw [hf₂, State.calling_eq h.top, State.setFrames_setFrames, State.setTop_of_frames _ hr', hr]
      rfl
    have hsame : U.sameButNew ({ U with heap := s₂.heap, slotsUsed := s₂.slotsUsed } : State) L mc ms := by
      refine ⟨?_, q2, q3, q4, q5, q6⟩
      obtain ⟨t, ht, -⟩ := State.frames_cons hr
      show ({ U with heap := s₂.heap, slotsUsed := s₂.slotsUsed } : State) = { U.setFrames U.frames with heap := s₂.heap, slotsUsed := s₂.slotsUsed }
      rw [State.setFrames_self ht]
    subst hg
    refine Or.inl ⟨v, ⟨(({ U with heap := s₂.heap, slotsUsed := s₂.slotsUsed } : State).setVm s₂.vm), Ls ++ L, c0 + mc, s0 + ms⟩,
      ⟨X.admits, X.cas, X.clock, X.frames, X.room, X.hears, X.method, X.code, (X.here.setHeapUsed s₂.heap s₂.slotsUsed).setVm hW'.alike, X.tail, State.WarmedH.trans X.warmed hW', X.limits, X.bytes, X.same.trans (hsame.setVm s.vm)⟩,
      ⟨g, mk, s₂, L, rfl, rfl, hqc, rfl, hL, rfl, rfl⟩, ?_⟩
    show Steps p.tables e below _ ((({ U with heap := s₂.heap, slotsUsed := s₂.slotsUsed } : State).setVm s₂.vm).setTop { g with pc := g.pc + len₂, stack := v.toList ++ g.stack })
    rw [← hs₂]
    exact hsteps
  · obtain ⟨e2, q2, q3, q4, q5, q6⟩ := id hsm
    have e3 : s₂ = ({ (U.calling g mk a).setFrames s₂.frames with heap := s₂.heap, slotsUsed := s₂.slotsUsed } : State).setVm s₂.vm := by
      have : s₂ = ({ s₂ with vm := (U.calling g mk a).vm } : State).setVm s₂.vm := rfl
      rw [e2] at this
      exact this
    have hf₂ : s₂.frames = .throwing q :: .java g :: U.frames.tail := hend
    have hW' : U.WarmedH s₂.vm := hW₂
    have hs₂ : s₂ = ((({ U with heap := s₂.heap, slotsUsed := s₂.slotsUsed } : State).setVm s₂.vm).setTop g).pushFrame (.throwing q) := by
      refine e3.trans ?_
      rw [hf₂, State.calling_eq h.top, State.setFrames_setFrames, State.pushFrame, State.frames_setTop _ hr', State.setTop_of_frames _ hr', State.setFrames_setFrames, hr]
      rfl
    have hsame : U.sameButNew ({ U with heap := s₂.heap, slotsUsed := s₂.slotsUsed } : State) L mc ms := by
      refine ⟨?_, q2, q3, q4, q5, q6⟩
      obtain ⟨t, ht, -⟩ := State.frames_cons hr
      show ({ U with heap := s₂.heap, slotsUsed := s₂.slotsUsed } : State) = { U.setFrames U.frames with heap := s₂.heap, slotsUsed := s₂.slotsUsed }
      rw [State.setFrames_self ht]
    subst hg
    refine Or.inr ⟨q, ⟨(({ U with heap := s₂.heap, slotsUsed := s₂.slotsUsed } : State).setVm s₂.vm), Ls ++ L, c0 + mc, s0 + ms⟩,
      ⟨X.admits, X.cas, X.clock, X.frames, X.room, X.hears, X.method, X.code, (X.here.setHeapUsed s₂.heap s₂.slotsUsed).setVm hW'.alike, X.tail, State.WarmedH.trans X.warmed hW', X.limits, X.bytes, X.same.trans (hsame.setVm s.vm)⟩,
      ⟨g, mk, s₂, L, E, ce, rfl, rfl, hx, hce, hcv, hcl, rfl, hL, rfl, rfl⟩, ?_⟩
    show Steps p.tables e below _ (((({ U with heap := s₂.heap, slotsUsed := s₂.slotsUsed } : State).setVm s₂.vm).setTop g).pushFrame (.throwing q))
    rw [← hs₂]
    exact hsteps
end
variable {p : Program} {l : Launch} {e : Env} {R : Room} {s : State} {m : MethodId} {args : Array Value} {below : List Frame} {meth : Method} {c : Code} {T : State} {H : Heap} {locs : List Loc} {cells slots : Nat}
theorem vx_callVX (X : Stand p l e R s m args below meth c T locs cells slots) (hexec : p.tables.exec = Jvm.exec) {own C : String} {index : Nat} {y : MethodName} {bytes : ByteArray} {maxL : Nat} {ret : Option FieldType} {hh : List (Nat × Nat × Nat × Nat)}
    (hown : s.vm.findClass own = some m.cls) (hlink : (Cond.methodLink own index y).before args s = true) (hinst : (Cond.instanceMethod y).before args s = true) (hsel : (Cond.selects C y y).before args s = true)
    (hcode : (Cond.codeWith y bytes maxL ret hh).before args s = true) (hy : y.cls ≠ "java/lang/invoke/MethodHandle" ∧ y.cls ≠ "java/lang/invoke/VarHandle")
    {W9 : Nat} {Pre : Pt → Array Value → Prop} {Post : Pt → Array Value → Option Value → Pt → Prop} {PostX : Pt → Array Value → Addr → Pt → Prop} (hK : vx_Back l R p e below s args y 3 W9 Pre Post PostX)
    {b : Addr} {cellB : Cell} (hcell : T.heap[b]? = some cellB) (hobj : cellB.vm.isStatics = false) (hcls : s.vm.findClass C = some cellB.cls)
    {g : JFrame} (hg : g.method = m) (hsize : g.locals.size = c.maxLocals) {argsL rest : List Value} (hlen : ∀ sig, parseMethodDescriptor y.desc = some sig → argsL.length = sig.parameters.length)
    (hstack : g.stack = argsL.reverse ++ .ref b :: rest) (hW : 2 * g.monitorRoom + (rest.map fun v => v.category).sum ≤ W9) (hdg : decode c.code g.pc = .ok (.invokevirtual index, 3))
    (hpre : ∀ vm₁, s.WarmedH vm₁ → Pre ⟨T.setVm vm₁, locs, cells, slots⟩ (Value.ref b :: argsL).toArray) :
    (∃ (v : Option Value) (vm₁ : Vm) (B : Pt), s.WarmedH vm₁ ∧ Stand p l e R s m args below meth c B.U B.locs B.cells B.slots ∧ Post ⟨T.setVm vm₁, locs, cells, slots⟩ (Value.ref b :: argsL).toArray v B ∧
      ∀ target, Steps p.tables e below (B.U.setTop { g with pc := g.pc + 3, stack := v.toList ++ rest }) target → Steps p.tables e below (T.setTop g) target) ∨
    (∃ (q : Addr) (vm₁ : Vm) (B : Pt), s.WarmedH vm₁ ∧ Stand p l e R s m args below meth c B.U B.locs B.cells B.slots ∧ PostX ⟨T.setVm vm₁, locs, cells, slots⟩ (Value.ref b :: argsL).toArray q B ∧
      Steps p.tables e below (T.setTop g) ((B.U.setTop { g with stack := rest }).pushFrame (.throwing q))) := by
  obtain ⟨mk, methM, hnamed, hmethM, hstM, habM⟩ := Cond.instanceMethod_spec hinst
  obtain ⟨m8, methM', cM, hn8, hmethM', -, -, -, -, -, -, hsigM⟩ := Cond.codeWith_spec hcode
  cases Option.some.inj (hn8.symm.trans hnamed)
  cases hmethM.symm.trans hmethM'
  obtain ⟨c2, r2, m2, q1, q2, q3, q4, kP, hkP, hkPi⟩ := Cond.selects_spec hsel
  cases hcls.symm.trans q1
  cases (State.methodFound?_of_named hnamed hy).symm.trans q2
  cases hnamed.symm.trans q3
  have hselP : selectMethod e.platform s.vm cellB.cls mk = .method mk := by rw [Launch.admits_selectMethod X.admits]; exact q4
  obtain ⟨vm₁, X₁, hstep₁⟩ := X.invokevirtual hexec hown hlink hnamed hmethM hstM hkP hkPi hy (a := b) (cell := cellB) hcell
    (fun z h => by rw [h] at hobj; cases hobj) hselP hmethM habM hkP hkPi (g := g) hg (argsL := argsL) (rest := rest) (hlen _ hsigM) hstack hdg
  rcases hK m meth c ⟨T.setVm vm₁, locs, cells, slots⟩ { g with stack := rest } (.invokevirtual index) mk (Value.ref b :: argsL).toArray X₁ hg hsize hdg hW (X₁.named hnamed) (hpre vm₁ X₁.warmed) with ⟨v, B, X', hpost, hsteps⟩ | ⟨q, B, X', hpost, hsteps⟩
  · exact Or.inl ⟨v, vm₁, B, X₁.warmed, X', hpost, fun target h => hstep₁ _ fun acts => by rw [doInvoke_state]; exact hsteps.trans h⟩
  · exact Or.inr ⟨q, vm₁, B, X₁.warmed, X', hpost, hstep₁ _ fun acts => by rw [doInvoke_state]; exact hsteps⟩
theorem vx_callSX (X : Stand p l e R s m args below meth c T locs cells slots) (hexec : p.tables.exec = Jvm.exec) {own : String} {index : Nat} {y : MethodName} {bytes : ByteArray} {maxL : Nat} {ret : Option FieldType} {hh : List (Nat × Nat × Nat × Nat)}
    (hown : s.vm.findClass own = some m.cls) (hlink : (Cond.methodLink own index y).before args s = true) (hstat : (Cond.static y).before args s = true) (hinit : (Cond.initialized y.cls).before args s = true)
    (hcode : (Cond.codeWith y bytes maxL ret hh).before args s = true) (hy : y.cls ≠ "java/lang/invoke/MethodHandle" ∧ y.cls ≠ "java/lang/invoke/VarHandle")
    {W9 : Nat} {Pre : Pt → Array Value → Prop} {Post : Pt → Array Value → Option Value → Pt → Prop} {PostX : Pt → Array Value → Addr → Pt → Prop} (hK : vx_Back l R p e below s args y 3 W9 Pre Post PostX)
    {g : JFrame} (hg : g.method = m) (hsize : g.locals.size = c.maxLocals) {argsL rest : List Value} (hlen : ∀ sig, parseMethodDescriptor y.desc = some sig → argsL.length = sig.parameters.length)
    (hstack : g.stack = argsL.reverse ++ rest) (hW : 2 * g.monitorRoom + (rest.map fun v => v.category).sum ≤ W9) (hdg : decode c.code g.pc = .ok (.invokestatic index, 3))
    (hpre : ∀ vm₁, s.WarmedH vm₁ → Pre ⟨T.setVm vm₁, locs, cells, slots⟩ argsL.toArray) :
    (∃ (v : Option Value) (vm₁ : Vm) (B : Pt), s.WarmedH vm₁ ∧ Stand p l e R s m args below meth c B.U B.locs B.cells B.slots ∧ Post ⟨T.setVm vm₁, locs, cells, slots⟩ argsL.toArray v B ∧
      ∀ target, Steps p.tables e below (B.U.setTop { g with pc := g.pc + 3, stack := v.toList ++ rest }) target → Steps p.tables e below (T.setTop g) target) ∨
    (∃ (q : Addr) (vm₁ : Vm) (B : Pt), s.WarmedH vm₁ ∧ Stand p l e R s m args below meth c B.U B.locs B.cells B.slots ∧ PostX ⟨T.setVm vm₁, locs, cells, slots⟩ argsL.toArray q B ∧
      Steps p.tables e below (T.setTop g) ((B.U.setTop { g with stack := rest }).pushFrame (.throwing q))) := by
  obtain ⟨mk, methM, cM, hnamed, hmethM, -, -, -, -, -, -, hsigM⟩ := Cond.codeWith_spec hcode
  have hstatic : methM.isStatic = true := Cond.static_spec hnamed hmethM hstat
  obtain ⟨kP, hkP, -⟩ := className_of_methodNamed hnamed
  have hinitP : kP.init = .initialized := Cond.initialized_spec (findClass_of_methodNamed hnamed) hkP hinit
  obtain ⟨vm₁, X₁, hstep₁⟩ := X.invokestatic hexec hown hlink hnamed hmethM hstatic hkP hinitP hy (g := g) hg (argsL := argsL) (rest := rest) (hlen _ hsigM) hstack hdg
  rcases hK m meth c ⟨T.setVm vm₁, locs, cells, slots⟩ { g with stack := rest } (.invokestatic index) mk argsL.toArray X₁ hg hsize hdg hW (X₁.named hnamed) (hpre vm₁ X₁.warmed) with ⟨v, B, X', hpost, hsteps⟩ | ⟨q, B, X', hpost, hsteps⟩
  · exact Or.inl ⟨v, vm₁, B, X₁.warmed, X', hpost, fun target h => hstep₁ _ fun acts => by rw [doInvoke_state]; exact hsteps.trans h⟩
  · exact Or.inr ⟨q, vm₁, B, X₁.warmed, X', hpost, hstep₁ _ fun acts => by rw [doInvoke_state]; exact hsteps⟩
theorem vx_callVW (X : Stand p l e R s m args below meth c T locs cells slots) (hexec : p.tables.exec = Jvm.exec) {own C : String} {index : Nat} {y : MethodName} {bytes : ByteArray} {maxL : Nat} {ret : Option FieldType} {hh : List (Nat × Nat × Nat × Nat)}
    (hown : s.vm.findClass own = some m.cls) (hlink : (Cond.methodLink own index y).before args s = true) (hinst : (Cond.instanceMethod y).before args s = true) (hsel : (Cond.selects C y y).before args s = true)
    (hcode : (Cond.codeWith y bytes maxL ret hh).before args s = true) (hy : y.cls ≠ "java/lang/invoke/MethodHandle" ∧ y.cls ≠ "java/lang/invoke/VarHandle")
    {W9 : Nat} {Pre : Pt → Array Value → Prop} {Post : Pt → Array Value → Option Value → Pt → Prop} (hK : Back l R p e below s args y 3 W9 Pre Post)
    {b : Addr} {cellB : Cell} (hcell : T.heap[b]? = some cellB) (hobj : cellB.vm.isStatics = false) (hcls : s.vm.findClass C = some cellB.cls)
    {g : JFrame} (hg : g.method = m) (hsize : g.locals.size = c.maxLocals) {argsL rest : List Value} (hlen : ∀ sig, parseMethodDescriptor y.desc = some sig → argsL.length = sig.parameters.length)
    (hstack : g.stack = argsL.reverse ++ .ref b :: rest) (hW : 2 * g.monitorRoom + (rest.map fun v => v.category).sum ≤ W9) (hdg : decode c.code g.pc = .ok (.invokevirtual index, 3))
    (hpre : ∀ vm₁, s.WarmedH vm₁ → Pre ⟨T.setVm vm₁, locs, cells, slots⟩ (Value.ref b :: argsL).toArray) :
    ∃ (v : Option Value) (vm₁ : Vm) (B : Pt), s.WarmedH vm₁ ∧ Stand p l e R s m args below meth c B.U B.locs B.cells B.slots ∧ Post ⟨T.setVm vm₁, locs, cells, slots⟩ (Value.ref b :: argsL).toArray v B ∧
      ∀ target, Steps p.tables e below (B.U.setTop { g with pc := g.pc + 3, stack := v.toList ++ rest }) target → Steps p.tables e below (T.setTop g) target := by
  obtain ⟨mk, methM, hnamed, hmethM, hstM, habM⟩ := Cond.instanceMethod_spec hinst
  obtain ⟨m8, methM', cM, hn8, hmethM', -, -, -, -, -, -, hsigM⟩ := Cond.codeWith_spec hcode
  cases Option.some.inj (hn8.symm.trans hnamed)
  cases hmethM.symm.trans hmethM'
  obtain ⟨c2, r2, m2, q1, q2, q3, q4, kP, hkP, hkPi⟩ := Cond.selects_spec hsel
  cases hcls.symm.trans q1
  cases (State.methodFound?_of_named hnamed hy).symm.trans q2
  cases hnamed.symm.trans q3
  have hselP : selectMethod e.platform s.vm cellB.cls mk = .method mk := by rw [Launch.admits_selectMethod X.admits]; exact q4
  obtain ⟨vm₁, X₁, hstep₁⟩ := X.invokevirtual hexec hown hlink hnamed hmethM hstM hkP hkPi hy (a := b) (cell := cellB) hcell
    (fun z h => by rw [h] at hobj; cases hobj) hselP hmethM habM hkP hkPi (g := g) hg (argsL := argsL) (rest := rest) (hlen _ hsigM) hstack hdg
  obtain ⟨v, B, X', hpost, hsteps⟩ := hK m meth c ⟨T.setVm vm₁, locs, cells, slots⟩ { g with stack := rest } (.invokevirtual index) mk (Value.ref b :: argsL).toArray X₁ hg hsize hdg hW (X₁.named hnamed) (hpre vm₁ X₁.warmed)
  exact ⟨v, vm₁, B, X₁.warmed, X', hpost, fun target h => hstep₁ _ fun acts => by rw [doInvoke_state]; exact hsteps.trans h⟩
abbrev vx_CVW (R : Room) (s : State) (args : Array Value) (own C : String) (index : Nat) (y : MethodName) (bytes : ByteArray) (maxL : Nat) (ret : Option FieldType) (hh : List (Nat × Nat × Nat × Nat)) (ws : List Cond) (rm : Room) (mc ms n : Nat) : Prop :=
  (rm.cells = mc ∧ rm.slots = ms ∧ rm.frames + 1 ≤ R.frames ∧ 8 + (maxL + 11) + rm.locals ≤ R.locals ∧ (∀ w ∈ ws, ∀ (a' : Array Value) (U : State), s.WarmedH U.vm → w.before a' U = true) ∧ Cond.codeWith y bytes maxL ret hh ∈ ws) ∧
  (Cond.codeWith y bytes maxL ret hh).before args s = true ∧ (Cond.initialized y.cls).before args s = true ∧ (y.cls ≠ "java/lang/invoke/MethodHandle" ∧ y.cls ≠ "java/lang/invoke/VarHandle") ∧
  (∀ sig, parseMethodDescriptor y.desc = some sig → n = sig.parameters.length) ∧ (Cond.methodLink own index y).before args s = true ∧ (Cond.instanceMethod y).before args s = true ∧ (Cond.selects C y y).before args s = true
theorem vx_cwVW {own C : String} {index maxL mc ms : Nat} {y : MethodName} {bytes : ByteArray} {ret : Option FieldType} {hh : List (Nat × Nat × Nat × Nat)} {Ts ws ws' : List Cond} {rm : Room} (n : Nat) (ht : ∀ w ∈ Ts, w.before args s = true) (hT : GoodIn Ts (wsV own index C y ws)) (hw : ws = Cond.codeWith y bytes maxL ret hh :: ws') (hrc : rm.cells = mc) (hrs : rm.slots = ms)
    (hd : y.cls = C ∧ y.cls ≠ "java/lang/invoke/MethodHandle" ∧ y.cls ≠ "java/lang/invoke/VarHandle" ∧ (parseMethodDescriptor y.desc).map (fun d => d.parameters.length) = some n) (hR : rm.frames + 1 ≤ R.frames ∧ 8 + (maxL + 11) + rm.locals ≤ R.locals) :
    vx_CVW R s args own C index y bytes maxL ret hh ws rm mc ms n := by
  obtain ⟨hC, hd⟩ := hd
  subst hC
  have ok : ∀ w ∈ wsV own index y.cls y ws, w.before args s = true := fun w h => ht w (hT w h).1
  have hG : GoodIn Ts ws := fun w h => hT w (by unfold wsV; exact List.mem_append_right _ h)
  have hc : Cond.codeWith y bytes maxL ret hh ∈ ws := by rw [hw]; exact List.mem_cons_self
  refine ⟨⟨hrc, hrs, hR.1, hR.2, pay_in ht hG, hc⟩, ht _ (hG _ hc).1, ok _ (by simp [wsV]), ⟨hd.1, hd.2.1⟩, fun sig h => ?_, ok _ (by simp [wsV]), ok _ (by simp [wsV]), ok _ (by simp [wsV])⟩
  have h2 := hd.2.2
  rw [h] at h2
  exact (Option.some.inj h2).symm
theorem vx_runVW {y : MethodName} {bytes cc : ByteArray} {maxL nL mc ms n index : Nat} {ret : Option FieldType} {hh : List (Nat × Nat × Nat × Nat)} {ws : List Cond} {rm : Room} {Pc : Array Value → State → Prop} {Qc : Array Value → State → Outcome → State → Prop} {free : Addr → Prop} {Ts : List Cond} {own C : String} {b : Addr} {As rest : List Value} {g : JFrame}
    (S : CallFix p m c cc nL s args Ts own) (hM : Met l y ws rm Pc Qc mc ms free) (cw : vx_CVW R s args own C index y bytes maxL ret hh ws rm mc ms n) (hp : PreV s H C b Pc As)
    (hg : g.method = m) (hn : As.length = n) (hsize : g.locals.size = nL) (hstack : g.stack = As.reverse ++ .ref b :: rest) (hW : 2 * g.monitorRoom + (rest.map fun v => v.category).sum ≤ 8) (hdg : decode cc g.pc = .ok (.invokevirtual index, 3)) (hf : cells + mc ≤ R.cells ∧ slots + ms ≤ R.slots) :
    va_Run p l e R s m args below meth c H locs cells slots mc ms g rest (Qc (Value.ref b :: As).toArray) free := by
  obtain ⟨⟨hrc, hrs, hfr, hlo, hws, hcw⟩, hcode, hini, hy, hlen, hl, hin, hse⟩ := cw
  have hK : Back l R p e below s args y 3 8 (PreOf R mc ms Pc) (PostOf Qc mc ms free) := va_backW (hh := hh) (bytes := bytes) (maxL := maxL) (ret := ret) hM hp.1 hrc hrs hfr hlo hws hcw (fun a' U hW => word_at hW (Or.inl (by first | rfl | simp [Cond.onTables, Cond.keeps, Cond.steady])) hini)
  obtain ⟨hx, hb, hml, ho, -⟩ := S
  obtain ⟨-, ⟨cellB, hcB, hoB, hclB⟩, hPc⟩ := hp
  intro T hT X
  obtain ⟨v, vm₁, ⟨U', l2, c2, s2⟩, hW₁, X', ⟨g', mk, t, L, e1, e2, hq, h1, hL, h2, h3⟩, st⟩ := vx_callVW X hx (C := C) (hh := hh) (bytes := bytes) (maxL := maxL) (ret := ret) ho hl hin hse hcode hy hK (by rw [hT]; exact hcB) hoB hclB hg (hsize.trans hml.symm) (argsL := As) (rest := rest) (fun sig h => hn.trans (hlen sig h)) hstack hW (by rw [hb]; exact hdg)
    (fun vm₁ hW₁ => ⟨hf.1, hf.2, hPc (T.setVm vm₁) hT hW₁⟩)
  dsimp only [Pt.U, Pt.locs, Pt.cells, Pt.slots] at X' e1 e2 h1 h2 h3 st
  subst h1; subst h2; subst h3
  exact ⟨v, (T.setVm vm₁).calling g' mk (Value.ref b :: As).toArray, t, U', L, hT, X', hL, e1, e2, hq, st⟩
section
variable {y : MethodName} {bytes cc : ByteArray} {maxL nL mc ms n index : Nat} {ret : Option FieldType} {ws : List Cond} {rm : Room} {Pc : Array Value → State → Prop} {Qc : Array Value → State → Outcome → State → Prop} {XC : String → State → State → Prop} {free : Addr → Prop} {Ts : List Cond} {own C : String} {b : Addr} {As rest : List Value} {g : JFrame}
theorem vx_runVX {hh : List (Nat × Nat × Nat × Nat)} (S : CallFix p m c cc nL s args Ts own) (hM : vx_Met l y ws rm Pc Qc XC mc ms free) (cw : vx_CVW R s args own C index y bytes maxL ret hh ws rm mc ms n) (hp : PreV s H C b Pc As)
    (hg : g.method = m) (hn : As.length = n) (hsize : g.locals.size = nL) (hstack : g.stack = As.reverse ++ .ref b :: rest) (hW : 2 * g.monitorRoom + (rest.map fun v => v.category).sum ≤ 8) (hdg : decode cc g.pc = .ok (.invokevirtual index, 3)) (hf : cells + mc ≤ R.cells ∧ slots + ms ≤ R.slots) :
    vx_Run p l e R s m args below meth c H locs cells slots mc ms g rest (Qc (Value.ref b :: As).toArray) XC free := by
  obtain ⟨⟨hrc, hrs, hfr, hlo, hws, hcw⟩, hcode, hini, hy, hlen, hl, hin, hse⟩ := cw
  have hK : vx_Back l R p e below s args y 3 8 (PreOf R mc ms Pc) (PostOf Qc mc ms free) (vx_Post XC mc ms free) := vx_backW (hh := hh) (bytes := bytes) (maxL := maxL) (ret := ret) hM hp.1 hrc hrs hfr hlo hws hcw (fun a' U hW => word_at hW (Or.inl (by first | rfl | simp [Cond.onTables, Cond.keeps, Cond.steady])) hini)
  obtain ⟨hx, hb, hml, ho, -⟩ := S
  obtain ⟨-, ⟨cellB, hcB, hoB, hclB⟩, hPc⟩ := hp
  intro T hT X
  rcases vx_callVX X hx (C := C) (hh := hh) (bytes := bytes) (maxL := maxL) (ret := ret) ho hl hin hse hcode hy hK (by rw [hT]; exact hcB) hoB hclB hg (hsize.trans hml.symm) (argsL := As) (rest := rest) (fun sig h => hn.trans (hlen sig h)) hstack hW (by rw [hb]; exact hdg)
    (fun vm₁ hW₁ => ⟨hf.1, hf.2, hPc (T.setVm vm₁) hT hW₁⟩) with ⟨v, vm₁, ⟨U', l2, c2, s2⟩, hW₁, X', ⟨g', mk, t, L, e1, e2, hq, h1, hL, h2, h3⟩, st⟩ | ⟨q, vm₁, ⟨U', l2, c2, s2⟩, hW₁, X', ⟨g', mk, t, L, E, ce, e1, e2, hq, hce, hcv, hcl, h1, hL, h2, h3⟩, st⟩
  · dsimp only [Pt.U, Pt.locs, Pt.cells, Pt.slots] at X' e1 e2 h1 h2 h3 st
    subst h1; subst h2; subst h3
    exact Or.inl ⟨v, (T.setVm vm₁).calling g' mk (Value.ref b :: As).toArray, t, U', L, hT, X', hL, e1, e2, hq, st⟩
  · dsimp only [Pt.U, Pt.locs, Pt.cells, Pt.slots] at X' e1 e2 h1 h2 h3 st hcl
    subst h1; subst h2; subst h3
    exact Or.inr ⟨q, (T.setVm vm₁).calling g' mk (Value.ref b :: As).toArray, t, U', L, E, ce, hT, X', hL, e1, e2, hq, hce, hcv, vx_cls hW₁ hcl, st⟩
theorem vx_runSX {hh : List (Nat × Nat × Nat × Nat)} (S : CallFix p m c cc nL s args Ts own) (hM : vx_Met l y ws rm Pc Qc XC mc ms free) (cw : vx_CSW R s args own index y bytes maxL ret hh ws rm mc ms n) (hp : PreS s H Pc As)
    (hg : g.method = m) (hn : As.length = n) (hsize : g.locals.size = nL) (hstack : g.stack = As.reverse ++ rest) (hW : 2 * g.monitorRoom + (rest.map fun v => v.category).sum ≤ 8) (hdg : decode cc g.pc = .ok (.invokestatic index, 3)) (hf : cells + mc ≤ R.cells ∧ slots + ms ≤ R.slots) :
    vx_Run p l e R s m args below meth c H locs cells slots mc ms g rest (Qc As.toArray) XC free := by
  obtain ⟨⟨hrc, hrs, hfr, hlo, hws, hcw⟩, hcode, hini, hy, hlen, hl, hstt⟩ := cw
  have hK : vx_Back l R p e below s args y 3 8 (PreOf R mc ms Pc) (PostOf Qc mc ms free) (vx_Post XC mc ms free) := vx_backW (hh := hh) (bytes := bytes) (maxL := maxL) (ret := ret) hM hp.1 hrc hrs hfr hlo hws hcw (fun a' U hW => word_at hW (Or.inl (by first | rfl | simp [Cond.onTables, Cond.keeps, Cond.steady])) hini)
  obtain ⟨hx, hb, hml, ho, -⟩ := S
  intro T hT X
  rcases vx_callSX X hx (hh := hh) (bytes := bytes) (maxL := maxL) (ret := ret) ho hl hstt hini hcode hy hK hg (hsize.trans hml.symm) (argsL := As) (rest := rest) (fun sig h => hn.trans (hlen sig h)) hstack hW (by rw [hb]; exact hdg)
    (fun vm₁ hW₁ => ⟨hf.1, hf.2, hp.2 (T.setVm vm₁) hT hW₁⟩) with ⟨v, vm₁, ⟨U', l2, c2, s2⟩, hW₁, X', ⟨g', mk, t, L, e1, e2, hq, h1, hL, h2, h3⟩, st⟩ | ⟨q, vm₁, ⟨U', l2, c2, s2⟩, hW₁, X', ⟨g', mk, t, L, E, ce, e1, e2, hq, hce, hcv, hcl, h1, hL, h2, h3⟩, st⟩
  · dsimp only [Pt.U, Pt.locs, Pt.cells, Pt.slots] at X' e1 e2 h1 h2 h3 st
    subst h1; subst h2; subst h3
    exact Or.inl ⟨v, (T.setVm vm₁).calling g' mk As.toArray, t, U', L, hT, X', hL, e1, e2, hq, st⟩
  · dsimp only [Pt.U, Pt.locs, Pt.cells, Pt.slots] at X' e1 e2 h1 h2 h3 st hcl
    subst h1; subst h2; subst h3
    exact Or.inr ⟨q, (T.setVm vm₁).calling g' mk As.toArray, t, U', L, E, ce, hT, X', hL, e1, e2, hq, hce, hcv, vx_cls hW₁ hcl, st⟩
end
end VXH
theorem vx_ofWH {l : Launch} {y : MethodName} {ws ws' : List Cond} {rm : Room} {Pc : Array Value → State → Prop} {Qc : Array Value → State → Outcome → State → Prop} {XC : String → State → State → Prop} {mc ms : Nat} {free : Addr → Prop} {cc : ByteArray} {maxL : Nat} {ret : Option FieldType} {hh : List (Nat × Nat × Nat × Nat)}
    (hy : plainName y.cls = true) (hw : ws = Cond.codeWith y cc maxL ret hh :: ws')
    (body : ∀ p e s m args below meth c s₁, BodyLoose p l y (headSpec ws rm) cc maxL ret e s m args below meth c s₁ → c.maxLocals = maxL → Pc args s →
      W p l e (headSpec ws rm).room s m args below meth c s.heap [] 0 0 (vx_MQ below Qc XC args s mc ms free) (entryFrame m args maxL)) : vx_Met l y ws rm Pc Qc XC mc ms free := by
  refine MetFree.of_bodyS (code := cc) (maxLocals := maxL) (ret := ret) hy ?_ ?_
  · intro args s m h hn
    obtain ⟨m9, meth, c, hn9, h1, h2, h3, h4, -, h5, h6, -⟩ := Cond.codeWith_spec (atoms_spec (ws := ws) h _ (by rw [hw]; exact List.mem_cons_self))
    cases hn.symm.trans hn9
    exact ⟨meth, c, h1, h2, h3, h4, h5, h6⟩
  · intro p e s m args below meth c s₁ B hml hP _
    have hh0 : s₁.heap = s.heap := by rw [B.state]; rfl
    obtain ⟨t, a1, o, b1, b2, b3⟩ := body p e s m args below meth c s₁ B hml hP s₁ hh0 (Stand.of_body B)
    exact ⟨t, o, a1, b1, b2, b3⟩
/-! ===== END ===== -/
end
section
def RX0 : String := "Stavehouse$Book"
def TX0 : u_T := fun k => match k with
  | 0 => ("Stavehouse$Book", "score", "LStavehouse$Score;", true)
  | 1 => ("Stavehouse$Book", "springs", "LStavehouse$Springs;", true)
  | 2 => ("Stavehouse$Book", "number", "I", false)
  | 3 => ("Stavehouse$Book", "itemCount", "I", false)
  | 4 => ("Stavehouse$Book", "firstBars", "[I", true)
  | 5 => ("Stavehouse$Book", "barItems", "[I", true)
  | 6 => ("Stavehouse$Book", "drawers", "[I", true)
  | 7 => ("Stavehouse$Book", "springSums", "[I", true)
  | _ => ("Stavehouse$Book", "leastSums", "[I", true)
def tyX0 : Nat → FieldType := fun k => match k with
  | 0 => .object "Stavehouse$Score"
  | 1 => .object "Stavehouse$Springs"
  | 2 => .int
  | 3 => .int
  | 4 => .array .int
  | 5 => .array .int
  | 6 => .array .int
  | 7 => .array .int
  | _ => .array .int
abbrev wsX00 : List Cond := u_ws RX0 TX0 9
theorem nmX0 : ∀ a, a < 9 → ∀ b, b < 9 → a ≠ b → (TX0 a).2.1 ≠ (TX0 b).2.1 := by decide +kernel
theorem tyX0_ok : ∀ k, k < 9 → parseFieldDescriptor (TX0 k).2.2.1 = some (tyX0 k) := by decide +kernel
abbrev cX0_init : ByteArray := prog_2_method_1_code
def yX0_init : MethodName := ⟨RX0, "<init>", "(LStavehouse$Score;)V"⟩
abbrev cX0_gather : ByteArray := prog_2_method_2_code
def yX0_gather : MethodName := ⟨RX0, "gather", "(I)V"⟩
abbrev cX0_drawerOf : ByteArray := prog_2_method_3_code
def yX0_drawerOf : MethodName := ⟨RX0, "drawerOf", "(I)I"⟩
abbrev cX0_addItem : ByteArray := prog_2_method_4_code
def yX0_addItem : MethodName := ⟨RX0, "addItem", "(II)V"⟩
abbrev cX0_drawSpring : ByteArray := prog_2_method_5_code
def yX0_drawSpring : MethodName := ⟨RX0, "drawSpring", "(II)I"⟩
abbrev cX0_widthOf : ByteArray := prog_2_method_6_code
def yX0_widthOf : MethodName := ⟨RX0, "widthOf", "(II)I"⟩
abbrev cX0_leastOf : ByteArray := prog_2_method_7_code
def yX0_leastOf : MethodName := ⟨RX0, "leastOf", "(II)I"⟩
def RX1 : String := "Stavehouse$Copy"
def TX1 : u_T := fun k => match k with
  | 0 => ("Stavehouse$Copy", "score", "LStavehouse$Score;", true)
  | 1 => ("Stavehouse$Copy", "instrument", "I", false)
  | 2 => ("Stavehouse$Copy", "desk", "I", false)
  | _ => ("Stavehouse$Copy", "versions", "[I", true)
def tyX1 : Nat → FieldType := fun k => match k with
  | 0 => .object "Stavehouse$Score"
  | 1 => .int
  | 2 => .int
  | _ => .array .int
abbrev wsX10 : List Cond := u_ws RX1 TX1 4
theorem nmX1 : ∀ a, a < 4 → ∀ b, b < 4 → a ≠ b → (TX1 a).2.1 ≠ (TX1 b).2.1 := by decide +kernel
theorem tyX1_ok : ∀ k, k < 4 → parseFieldDescriptor (TX1 k).2.2.1 = some (tyX1 k) := by decide +kernel
abbrev cX1_init : ByteArray := prog_3_method_1_code
def yX1_init : MethodName := ⟨RX1, "<init>", "(LStavehouse$Score;)V"⟩
abbrev cX1_isOut : ByteArray := prog_3_method_2_code
def yX1_isOut : MethodName := ⟨RX1, "isOut", "()Z"⟩
abbrev cX1_takeVersions : ByteArray := prog_3_method_3_code
def yX1_takeVersions : MethodName := ⟨RX1, "takeVersions", "()V"⟩
abbrev cX1_scoreVersion : ByteArray := prog_3_method_4_code
def yX1_scoreVersion : MethodName := ⟨RX1, "scoreVersion", "(I)I"⟩
abbrev cX1_versionOf : ByteArray := prog_3_method_5_code
def yX1_versionOf : MethodName := ⟨RX1, "versionOf", "(I)I"⟩
abbrev cX1_lacks : ByteArray := prog_3_method_6_code
def yX1_lacks : MethodName := ⟨RX1, "lacks", "(I)Z"⟩
abbrev cX1_owes : ByteArray := prog_3_method_7_code
def yX1_owes : MethodName := ⟨RX1, "owes", "(I)Z"⟩
abbrev cX1_countDebts : ByteArray := prog_3_method_8_code
def yX1_countDebts : MethodName := ⟨RX1, "countDebts", "()I"⟩
def RX2 : String := "Stavehouse$Desk"
def TX2 : u_T := fun k => match k with
  | 0 => ("Stavehouse$Desk", "signs", "[I", true)
  | 1 => ("Stavehouse$Desk", "markVersions", "[I", true)
  | 2 => ("Stavehouse$Desk", "bowings", "[I", true)
  | _ => ("Stavehouse$Desk", "bowVersions", "[I", true)
def tyX2 : Nat → FieldType := fun k => match k with
  | 0 => .array .int
  | 1 => .array .int
  | 2 => .array .int
  | _ => .array .int
abbrev wsX20 : List Cond := u_ws RX2 TX2 4
theorem nmX2 : ∀ a, a < 4 → ∀ b, b < 4 → a ≠ b → (TX2 a).2.1 ≠ (TX2 b).2.1 := by decide +kernel
theorem tyX2_ok : ∀ k, k < 4 → parseFieldDescriptor (TX2 k).2.2.1 = some (tyX2 k) := by decide +kernel
abbrev cX2_init : ByteArray := prog_4_method_1_code
def yX2_init : MethodName := ⟨RX2, "<init>", "()V"⟩
abbrev cX2_changeMark : ByteArray := prog_4_method_2_code
def yX2_changeMark : MethodName := ⟨RX2, "changeMark", "(III)I"⟩
abbrev cX2_countOldMarks : ByteArray := prog_4_method_3_code
def yX2_countOldMarks : MethodName := ⟨RX2, "countOldMarks", "(LStavehouse$Score;)I"⟩
abbrev cX2_bowingAt : ByteArray := prog_4_method_4_code
def yX2_bowingAt : MethodName := ⟨RX2, "bowingAt", "(III)I"⟩
abbrev cX2_changeBowing : ByteArray := prog_4_method_5_code
def yX2_changeBowing : MethodName := ⟨RX2, "changeBowing", "(IIII)I"⟩
def RX3 : String := "Stavehouse$Paper"
def TX3 : u_T := fun k => match k with
  | 0 => ("Stavehouse$Paper", "book", "LStavehouse$Book;", true)
  | 1 => ("Stavehouse$Paper", "paperWidth", "I", false)
  | 2 => ("Stavehouse$Paper", "pageLines", "I", false)
  | 3 => ("Stavehouse$Paper", "turnCosts", "[I", true)
  | 4 => ("Stavehouse$Paper", "costs", "[[I", true)
  | 5 => ("Stavehouse$Paper", "lineCounts", "[[I", true)
  | 6 => ("Stavehouse$Paper", "lineEnds", "[[I", true)
  | 7 => ("Stavehouse$Paper", "lineCount", "I", false)
  | 8 => ("Stavehouse$Paper", "turnSum", "I", false)
  | 9 => ("Stavehouse$Paper", "lineStarts", "[I", true)
  | _ => ("Stavehouse$Paper", "itemLines", "[I", true)
def tyX3 : Nat → FieldType := fun k => match k with
  | 0 => .object "Stavehouse$Book"
  | 1 => .int
  | 2 => .int
  | 3 => .array .int
  | 4 => .array (.array .int)
  | 5 => .array (.array .int)
  | 6 => .array (.array .int)
  | 7 => .int
  | 8 => .int
  | 9 => .array .int
  | _ => .array .int
abbrev wsX30 : List Cond := u_ws RX3 TX3 11
theorem nmX3 : ∀ a, a < 11 → ∀ b, b < 11 → a ≠ b → (TX3 a).2.1 ≠ (TX3 b).2.1 := by decide +kernel
theorem tyX3_ok : ∀ k, k < 11 → parseFieldDescriptor (TX3 k).2.2.1 = some (tyX3 k) := by decide +kernel
abbrev cX3_init : ByteArray := prog_5_method_1_code
def yX3_init : MethodName := ⟨RX3, "<init>", "(LStavehouse$Book;)V"⟩
abbrev cX3_breakLines : ByteArray := prog_5_method_2_code
def yX3_breakLines : MethodName := ⟨RX3, "breakLines", "()V"⟩
abbrev cX3_priceTurns : ByteArray := prog_5_method_3_code
def yX3_priceTurns : MethodName := ⟨RX3, "priceTurns", "()V"⟩
abbrev cX3_chooseLine : ByteArray := prog_5_method_4_code
def yX3_chooseLine : MethodName := ⟨RX3, "chooseLine", "(II)V"⟩
abbrev cX3_setLines : ByteArray := prog_5_method_5_code
def yX3_setLines : MethodName := ⟨RX3, "setLines", "()V"⟩
abbrev cX3_nextOnPage : ByteArray := prog_5_method_6_code
def yX3_nextOnPage : MethodName := ⟨RX3, "nextOnPage", "(I)I"⟩
abbrev cX3_mayBeLine : ByteArray := prog_5_method_7_code
def yX3_mayBeLine : MethodName := ⟨RX3, "mayBeLine", "(II)Z"⟩
abbrev cX3_badness : ByteArray := prog_5_method_8_code
def yX3_badness : MethodName := ⟨RX3, "badness", "(II)I"⟩
abbrev cX3_turnAhead : ByteArray := prog_5_method_9_code
def yX3_turnAhead : MethodName := ⟨RX3, "turnAhead", "(II)I"⟩
abbrev cX3_leastCost : ByteArray := prog_5_method_10_code
def yX3_leastCost : MethodName := ⟨RX3, "leastCost", "()I"⟩
abbrev cX3_leastByTrying : ByteArray := prog_5_method_11_code
def yX3_leastByTrying : MethodName := ⟨RX3, "leastByTrying", "()I"⟩
abbrev cX3_leastOfAllWays : ByteArray := prog_5_method_12_code
def yX3_leastOfAllWays : MethodName := ⟨RX3, "leastOfAllWays", "(III)I"⟩
abbrev cX3_springAt : ByteArray := prog_5_method_13_code
def yX3_springAt : MethodName := ⟨RX3, "springAt", "(II)I"⟩
abbrev cX3_shrunkAhead : ByteArray := prog_5_method_14_code
def yX3_shrunkAhead : MethodName := ⟨RX3, "shrunkAhead", "(IIII)I"⟩
abbrev cX3_stretchedAhead : ByteArray := prog_5_method_15_code
def yX3_stretchedAhead : MethodName := ⟨RX3, "stretchedAhead", "(IIII)I"⟩
def RX4 : String := "Stavehouse$Score"
def TX4 : u_T := fun k => match k with
  | 0 => ("Stavehouse$Score", "barCount", "I", false)
  | 1 => ("Stavehouse$Score", "barLengths", "[I", true)
  | 2 => ("Stavehouse$Score", "barTimes", "[I", true)
  | 3 => ("Stavehouse$Score", "barVersions", "[I", true)
  | 4 => ("Stavehouse$Score", "noteCounts", "[I", true)
  | 5 => ("Stavehouse$Score", "noteLengths", "[I", true)
  | _ => ("Stavehouse$Score", "notePitches", "[I", true)
def tyX4 : Nat → FieldType := fun k => match k with
  | 0 => .int
  | 1 => .array .int
  | 2 => .array .int
  | 3 => .array .int
  | 4 => .array .int
  | 5 => .array .int
  | _ => .array .int
abbrev wsX40 : List Cond := u_ws RX4 TX4 7
theorem nmX4 : ∀ a, a < 7 → ∀ b, b < 7 → a ≠ b → (TX4 a).2.1 ≠ (TX4 b).2.1 := by decide +kernel
theorem tyX4_ok : ∀ k, k < 7 → parseFieldDescriptor (TX4 k).2.2.1 = some (tyX4 k) := by decide +kernel
abbrev cX4_init : ByteArray := prog_6_method_1_code
def yX4_init : MethodName := ⟨RX4, "<init>", "()V"⟩
abbrev cX4_addBar : ByteArray := prog_6_method_2_code
def yX4_addBar : MethodName := ⟨RX4, "addBar", "(I)I"⟩
abbrev cX4_addNote : ByteArray := prog_6_method_3_code
def yX4_addNote : MethodName := ⟨RX4, "addNote", "(III)I"⟩
abbrev cX4_changePitch : ByteArray := prog_6_method_4_code
def yX4_changePitch : MethodName := ⟨RX4, "changePitch", "(III)I"⟩
abbrev cX4_takeNotes : ByteArray := prog_6_method_5_code
def yX4_takeNotes : MethodName := ⟨RX4, "takeNotes", "(I)I"⟩
abbrev cX4_lengthAt : ByteArray := prog_6_method_6_code
def yX4_lengthAt : MethodName := ⟨RX4, "lengthAt", "(II)I"⟩
abbrev cX4_pitchAt : ByteArray := prog_6_method_7_code
def yX4_pitchAt : MethodName := ⟨RX4, "pitchAt", "(II)I"⟩
abbrev cX4_filled : ByteArray := prog_6_method_8_code
def yX4_filled : MethodName := ⟨RX4, "filled", "(I)I"⟩
abbrev cX4_countTime : ByteArray := prog_6_method_9_code
def yX4_countTime : MethodName := ⟨RX4, "countTime", "(I)I"⟩
abbrev cX4_isSilent : ByteArray := prog_6_method_10_code
def yX4_isSilent : MethodName := ⟨RX4, "isSilent", "(II)Z"⟩
abbrev cX4_cuePlayer : ByteArray := prog_6_method_11_code
def yX4_cuePlayer : MethodName := ⟨RX4, "cuePlayer", "(II)I"⟩
abbrev cX4_silenceAround : ByteArray := prog_6_method_12_code
def yX4_silenceAround : MethodName := ⟨RX4, "silenceAround", "(II)I"⟩
abbrev cX4_silenceAtEnd : ByteArray := prog_6_method_13_code
def yX4_silenceAtEnd : MethodName := ⟨RX4, "silenceAtEnd", "(II)I"⟩
abbrev cX4_silenceAtBeginning : ByteArray := prog_6_method_14_code
def yX4_silenceAtBeginning : MethodName := ⟨RX4, "silenceAtBeginning", "(II)I"⟩
def RX5 : String := "Stavehouse$Springs"
def TX5 : u_T := fun k => match k with
  | 0 => ("Stavehouse$Springs", "springCount", "I", false)
  | 1 => ("Stavehouse$Springs", "starts", "[I", true)
  | 2 => ("Stavehouse$Springs", "widthSums", "[I", true)
  | 3 => ("Stavehouse$Springs", "leastSums", "[I", true)
  | _ => ("Stavehouse$Springs", "sounding", "[I", true)
def tyX5 : Nat → FieldType := fun k => match k with
  | 0 => .int
  | 1 => .array .int
  | 2 => .array .int
  | 3 => .array .int
  | _ => .array .int
abbrev wsX50 : List Cond := u_ws RX5 TX5 5
theorem nmX5 : ∀ a, a < 5 → ∀ b, b < 5 → a ≠ b → (TX5 a).2.1 ≠ (TX5 b).2.1 := by decide +kernel
theorem tyX5_ok : ∀ k, k < 5 → parseFieldDescriptor (TX5 k).2.2.1 = some (tyX5 k) := by decide +kernel
abbrev cX5_init : ByteArray := prog_7_method_1_code
def yX5_init : MethodName := ⟨RX5, "<init>", "()V"⟩
abbrev cX5_draw : ByteArray := prog_7_method_2_code
def yX5_draw : MethodName := ⟨RX5, "draw", "(LStavehouse$Score;II)V"⟩
abbrev cX5_addPlaces : ByteArray := prog_7_method_3_code
def yX5_addPlaces : MethodName := ⟨RX5, "addPlaces", "(LStavehouse$Score;II)V"⟩
abbrev cX5_addPlace : ByteArray := prog_7_method_4_code
def yX5_addPlace : MethodName := ⟨RX5, "addPlace", "(IZ)V"⟩
abbrev cX5_addSprings : ByteArray := prog_7_method_5_code
def yX5_addSprings : MethodName := ⟨RX5, "addSprings", "(I)V"⟩
abbrev cX5_nextPlace : ByteArray := prog_7_method_6_code
def yX5_nextPlace : MethodName := ⟨RX5, "nextPlace", "(II)I"⟩
abbrev cX5_naturalWidth : ByteArray := prog_7_method_7_code
def yX5_naturalWidth : MethodName := ⟨RX5, "naturalWidth", "(I)I"⟩
abbrev cX5_addSpring : ByteArray := prog_7_method_8_code
def yX5_addSpring : MethodName := ⟨RX5, "addSpring", "(III)V"⟩
abbrev cX5_widthOfAll : ByteArray := prog_7_method_9_code
def yX5_widthOfAll : MethodName := ⟨RX5, "widthOfAll", "()I"⟩
abbrev cX5_leastOfAll : ByteArray := prog_7_method_10_code
def yX5_leastOfAll : MethodName := ⟨RX5, "leastOfAll", "()I"⟩
abbrev cX5_springFrom : ByteArray := prog_7_method_11_code
def yX5_springFrom : MethodName := ⟨RX5, "springFrom", "(I)I"⟩
def RX6 : String := "Stavehouse"
def TX6 : u_T := fun k => match k with
  | 0 => ("Stavehouse", "score", "LStavehouse$Score;", true)
  | 1 => ("Stavehouse", "opened", "LStavehouse$Book;", true)
  | 2 => ("Stavehouse", "paper", "LStavehouse$Paper;", true)
  | 3 => ("Stavehouse", "shelf", "[LStavehouse$Copy;", true)
  | 4 => ("Stavehouse", "desks", "[LStavehouse$Desk;", true)
  | 5 => ("Stavehouse", "copyCount", "I", false)
  | _ => ("Stavehouse", "concertCount", "I", false)
def tyX6 : Nat → FieldType := fun k => match k with
  | 0 => .object "Stavehouse$Score"
  | 1 => .object "Stavehouse$Book"
  | 2 => .object "Stavehouse$Paper"
  | 3 => .array (.object "Stavehouse$Copy")
  | 4 => .array (.object "Stavehouse$Desk")
  | 5 => .int
  | _ => .int
abbrev wsX60 : List Cond := u_ws RX6 TX6 7
theorem nmX6 : ∀ a, a < 7 → ∀ b, b < 7 → a ≠ b → (TX6 a).2.1 ≠ (TX6 b).2.1 := by decide +kernel
theorem tyX6_ok : ∀ k, k < 7 → parseFieldDescriptor (TX6 k).2.2.1 = some (tyX6 k) := by decide +kernel
abbrev cX6_init : ByteArray := prog_1_method_1_code
def yX6_init : MethodName := ⟨RX6, "<init>", "()V"⟩
abbrev cX6_bar : ByteArray := prog_1_method_2_code
def yX6_bar : MethodName := ⟨RX6, "bar", "(I)I"⟩
abbrev cX6_note : ByteArray := prog_1_method_3_code
def yX6_note : MethodName := ⟨RX6, "note", "(IIII)I"⟩
abbrev cX6_mend : ByteArray := prog_1_method_4_code
def yX6_mend : MethodName := ⟨RX6, "mend", "(IIII)I"⟩
abbrev cX6_empty : ByteArray := prog_1_method_5_code
def yX6_empty : MethodName := ⟨RX6, "empty", "(II)I"⟩
abbrev cX6_setPaper : ByteArray := prog_1_method_6_code
def yX6_setPaper : MethodName := ⟨RX6, "setPaper", "(II)I"⟩
abbrev cX6_copy : ByteArray := prog_1_method_7_code
def yX6_copy : MethodName := ⟨RX6, "copy", "(I)I"⟩
abbrev cX6_lend : ByteArray := prog_1_method_8_code
def yX6_lend : MethodName := ⟨RX6, "lend", "(II)I"⟩
abbrev cX6_giveBack : ByteArray := prog_1_method_9_code
def yX6_giveBack : MethodName := ⟨RX6, "giveBack", "(I)I"⟩
abbrev cX6_paste : ByteArray := prog_1_method_10_code
def yX6_paste : MethodName := ⟨RX6, "paste", "(I)I"⟩
abbrev cX6_mark : ByteArray := prog_1_method_11_code
def yX6_mark : MethodName := ⟨RX6, "mark", "(III)I"⟩
abbrev cX6_bow : ByteArray := prog_1_method_12_code
def yX6_bow : MethodName := ⟨RX6, "bow", "(IIII)I"⟩
abbrev cX6_play : ByteArray := prog_1_method_13_code
def yX6_play : MethodName := ⟨RX6, "play", "()I"⟩
abbrev cX6_bars : ByteArray := prog_1_method_14_code
def yX6_bars : MethodName := ⟨RX6, "bars", "()I"⟩
abbrev cX6_notes : ByteArray := prog_1_method_15_code
def yX6_notes : MethodName := ⟨RX6, "notes", "(II)I"⟩
abbrev cX6_noteAt : ByteArray := prog_1_method_16_code
def yX6_noteAt : MethodName := ⟨RX6, "noteAt", "(III)I"⟩
abbrev cX6_version : ByteArray := prog_1_method_17_code
def yX6_version : MethodName := ⟨RX6, "version", "(II)I"⟩
abbrev cX6_time : ByteArray := prog_1_method_18_code
def yX6_time : MethodName := ⟨RX6, "time", "(I)I"⟩
abbrev cX6_timeByBars : ByteArray := prog_1_method_19_code
def yX6_timeByBars : MethodName := ⟨RX6, "timeByBars", "(I)I"⟩
abbrev cX6_items : ByteArray := prog_1_method_20_code
def yX6_items : MethodName := ⟨RX6, "items", "(I)I"⟩
abbrev cX6_itemOf : ByteArray := prog_1_method_21_code
def yX6_itemOf : MethodName := ⟨RX6, "itemOf", "(II)I"⟩
abbrev cX6_cue : ByteArray := prog_1_method_22_code
def yX6_cue : MethodName := ⟨RX6, "cue", "(II)I"⟩
abbrev cX6_width : ByteArray := prog_1_method_23_code
def yX6_width : MethodName := ⟨RX6, "width", "(II)I"⟩
abbrev cX6_lines : ByteArray := prog_1_method_24_code
def yX6_lines : MethodName := ⟨RX6, "lines", "(I)I"⟩
abbrev cX6_lineOf : ByteArray := prog_1_method_25_code
def yX6_lineOf : MethodName := ⟨RX6, "lineOf", "(II)I"⟩
abbrev cX6_cost : ByteArray := prog_1_method_26_code
def yX6_cost : MethodName := ⟨RX6, "cost", "(I)I"⟩
abbrev cX6_costByAll : ByteArray := prog_1_method_27_code
def yX6_costByAll : MethodName := ⟨RX6, "costByAll", "(I)I"⟩
abbrev cX6_turns : ByteArray := prog_1_method_28_code
def yX6_turns : MethodName := ⟨RX6, "turns", "(I)I"⟩
abbrev cX6_place : ByteArray := prog_1_method_29_code
def yX6_place : MethodName := ⟨RX6, "place", "(III)I"⟩
abbrev cX6_copies : ByteArray := prog_1_method_30_code
def yX6_copies : MethodName := ⟨RX6, "copies", "()I"⟩
abbrev cX6_deskOf : ByteArray := prog_1_method_31_code
def yX6_deskOf : MethodName := ⟨RX6, "deskOf", "(I)I"⟩
abbrev cX6_has : ByteArray := prog_1_method_32_code
def yX6_has : MethodName := ⟨RX6, "has", "(II)I"⟩
abbrev cX6_owed : ByteArray := prog_1_method_33_code
def yX6_owed : MethodName := ⟨RX6, "owed", "(I)I"⟩
abbrev cX6_markOf : ByteArray := prog_1_method_34_code
def yX6_markOf : MethodName := ⟨RX6, "markOf", "(III)I"⟩
abbrev cX6_oldMarks : ByteArray := prog_1_method_35_code
def yX6_oldMarks : MethodName := ⟨RX6, "oldMarks", "(I)I"⟩
abbrev cX6_clashes : ByteArray := prog_1_method_36_code
def yX6_clashes : MethodName := ⟨RX6, "clashes", "(I)I"⟩
abbrev cX6_concerts : ByteArray := prog_1_method_37_code
def yX6_concerts : MethodName := ⟨RX6, "concerts", "()I"⟩
abbrev cX6_needIndex : ByteArray := prog_1_method_38_code
def yX6_needIndex : MethodName := ⟨RX6, "needIndex", "(II)V"⟩
abbrev cX6_needValue : ByteArray := prog_1_method_39_code
def yX6_needValue : MethodName := ⟨RX6, "needValue", "(III)V"⟩
abbrev cX6_slotOf : ByteArray := prog_1_method_40_code
def yX6_slotOf : MethodName := ⟨RX6, "slotOf", "(II)I"⟩
abbrev cX6_needSlot : ByteArray := prog_1_method_41_code
def yX6_needSlot : MethodName := ⟨RX6, "needSlot", "(II)I"⟩
abbrev cX6_needCopyOut : ByteArray := prog_1_method_42_code
def yX6_needCopyOut : MethodName := ⟨RX6, "needCopyOut", "(I)LStavehouse$Copy;"⟩
abbrev cX6_deskHasPart : ByteArray := prog_1_method_43_code
def yX6_deskHasPart : MethodName := ⟨RX6, "deskHasPart", "(II)Z"⟩
abbrev cX6_copiesOut : ByteArray := prog_1_method_44_code
def yX6_copiesOut : MethodName := ⟨RX6, "copiesOut", "()I"⟩
abbrev cX6_anyCopyOwes : ByteArray := prog_1_method_45_code
def yX6_anyCopyOwes : MethodName := ⟨RX6, "anyCopyOwes", "()Z"⟩
abbrev cX6_clashesAt : ByteArray := prog_1_method_46_code
def yX6_clashesAt : MethodName := ⟨RX6, "clashesAt", "(LStavehouse$Desk;LStavehouse$Desk;I)I"⟩
abbrev cX6_openBook : ByteArray := prog_1_method_47_code
def yX6_openBook : MethodName := ⟨RX6, "openBook", "(I)V"⟩
abbrev cX6_breakBook : ByteArray := prog_1_method_48_code
def yX6_breakBook : MethodName := ⟨RX6, "breakBook", "(I)V"⟩
def RX7 : String := "StavehouseModel"
def TX7 : u_T := fun k => match k with
  | 0 => ("StavehouseModel", "lengths", "[I", true)
  | 1 => ("StavehouseModel", "noteLengths", "[I", true)
  | 2 => ("StavehouseModel", "pitches", "[I", true)
  | 3 => ("StavehouseModel", "counts", "[I", true)
  | 4 => ("StavehouseModel", "versions", "[I", true)
  | 5 => ("StavehouseModel", "bars", "I", false)
  | 6 => ("StavehouseModel", "paper", "I", false)
  | 7 => ("StavehouseModel", "page", "I", false)
  | 8 => ("StavehouseModel", "instruments", "[I", true)
  | 9 => ("StavehouseModel", "desks", "[I", true)
  | 10 => ("StavehouseModel", "has", "[I", true)
  | 11 => ("StavehouseModel", "copies", "I", false)
  | 12 => ("StavehouseModel", "concerts", "I", false)
  | 13 => ("StavehouseModel", "marks", "[I", true)
  | 14 => ("StavehouseModel", "markedAt", "[I", true)
  | 15 => ("StavehouseModel", "bowings", "[I", true)
  | 16 => ("StavehouseModel", "bowedAt", "[I", true)
  | 17 => ("StavehouseModel", "firsts", "[I", true)
  | 18 => ("StavehouseModel", "lasts", "[I", true)
  | 19 => ("StavehouseModel", "by", "[I", true)
  | 20 => ("StavehouseModel", "items", "I", false)
  | 21 => ("StavehouseModel", "springs", "[I", true)
  | 22 => ("StavehouseModel", "ats", "[I", true)
  | 23 => ("StavehouseModel", "widths", "[I", true)
  | 24 => ("StavehouseModel", "leasts", "[I", true)
  | 25 => ("StavehouseModel", "itemWidths", "[I", true)
  | 26 => ("StavehouseModel", "itemLeasts", "[I", true)
  | 27 => ("StavehouseModel", "costs", "[I", true)
  | 28 => ("StavehouseModel", "lines", "[I", true)
  | 29 => ("StavehouseModel", "takes", "[I", true)
  | 30 => ("StavehouseModel", "lineOf", "[I", true)
  | 31 => ("StavehouseModel", "lineCount", "I", false)
  | 32 => ("StavehouseModel", "turned", "I", false)
  | _ => ("StavehouseModel", "last", "I", false)
def tyX7 : Nat → FieldType := fun k => match k with
  | 0 => .array .int
  | 1 => .array .int
  | 2 => .array .int
  | 3 => .array .int
  | 4 => .array .int
  | 5 => .int
  | 6 => .int
  | 7 => .int
  | 8 => .array .int
  | 9 => .array .int
  | 10 => .array .int
  | 11 => .int
  | 12 => .int
  | 13 => .array .int
  | 14 => .array .int
  | 15 => .array .int
  | 16 => .array .int
  | 17 => .array .int
  | 18 => .array .int
  | 19 => .array .int
  | 20 => .int
  | 21 => .array .int
  | 22 => .array .int
  | 23 => .array .int
  | 24 => .array .int
  | 25 => .array .int
  | 26 => .array .int
  | 27 => .array .int
  | 28 => .array .int
  | 29 => .array .int
  | 30 => .array .int
  | 31 => .int
  | 32 => .int
  | _ => .int
abbrev wsX70 : List Cond := u_ws RX7 TX7 34
theorem nmX7 : ∀ a, a < 34 → ∀ b, b < 34 → a ≠ b → (TX7 a).2.1 ≠ (TX7 b).2.1 := by decide +kernel
theorem tyX7_ok : ∀ k, k < 34 → parseFieldDescriptor (TX7 k).2.2.1 = some (tyX7 k) := by decide +kernel
abbrev cX7_init : ByteArray := prog_9_method_1_code
def yX7_init : MethodName := ⟨RX7, "<init>", "()V"⟩
abbrev cX7_thrown : ByteArray := prog_9_method_2_code
def yX7_thrown : MethodName := ⟨RX7, "thrown", "()I"⟩
abbrev cX7_in : ByteArray := prog_9_method_3_code
def yX7_in : MethodName := ⟨RX7, "in", "(III)Z"⟩
abbrev cX7_goes : ByteArray := prog_9_method_4_code
def yX7_goes : MethodName := ⟨RX7, "goes", "(ZZZ)Z"⟩
abbrev cX7_isInstrument : ByteArray := prog_9_method_5_code
def yX7_isInstrument : MethodName := ⟨RX7, "isInstrument", "(I)Z"⟩
abbrev cX7_isBar : ByteArray := prog_9_method_6_code
def yX7_isBar : MethodName := ⟨RX7, "isBar", "(I)Z"⟩
abbrev cX7_isBook : ByteArray := prog_9_method_7_code
def yX7_isBook : MethodName := ⟨RX7, "isBook", "(I)Z"⟩
abbrev cX7_isCopy : ByteArray := prog_9_method_8_code
def yX7_isCopy : MethodName := ⟨RX7, "isCopy", "(I)Z"⟩
abbrev cX7_cell : ByteArray := prog_9_method_9_code
def yX7_cell : MethodName := ⟨RX7, "cell", "(II)I"⟩
abbrev cX7_bar : ByteArray := prog_9_method_10_code
def yX7_bar : MethodName := ⟨RX7, "bar", "(I)I"⟩
abbrev cX7_filled : ByteArray := prog_9_method_11_code
def yX7_filled : MethodName := ⟨RX7, "filled", "(II)I"⟩
abbrev cX7_note : ByteArray := prog_9_method_12_code
def yX7_note : MethodName := ⟨RX7, "note", "(IIII)I"⟩
abbrev cX7_isNote : ByteArray := prog_9_method_13_code
def yX7_isNote : MethodName := ⟨RX7, "isNote", "(III)Z"⟩
abbrev cX7_mend : ByteArray := prog_9_method_14_code
def yX7_mend : MethodName := ⟨RX7, "mend", "(IIII)I"⟩
abbrev cX7_empty : ByteArray := prog_9_method_15_code
def yX7_empty : MethodName := ⟨RX7, "empty", "(II)I"⟩
abbrev cX7_setPaper : ByteArray := prog_9_method_16_code
def yX7_setPaper : MethodName := ⟨RX7, "setPaper", "(II)I"⟩
abbrev cX7_copy : ByteArray := prog_9_method_17_code
def yX7_copy : MethodName := ⟨RX7, "copy", "(I)I"⟩
abbrev cX7_away : ByteArray := prog_9_method_18_code
def yX7_away : MethodName := ⟨RX7, "away", "()I"⟩
abbrev cX7_renews : ByteArray := prog_9_method_19_code
def yX7_renews : MethodName := ⟨RX7, "renews", "(I)V"⟩
abbrev cX7_lend : ByteArray := prog_9_method_20_code
def yX7_lend : MethodName := ⟨RX7, "lend", "(II)I"⟩
abbrev cX7_owes : ByteArray := prog_9_method_21_code
def yX7_owes : MethodName := ⟨RX7, "owes", "(II)Z"⟩
abbrev cX7_owedBy : ByteArray := prog_9_method_22_code
def yX7_owedBy : MethodName := ⟨RX7, "owedBy", "(I)I"⟩
abbrev cX7_isAway : ByteArray := prog_9_method_23_code
def yX7_isAway : MethodName := ⟨RX7, "isAway", "(I)Z"⟩
abbrev cX7_giveBack : ByteArray := prog_9_method_24_code
def yX7_giveBack : MethodName := ⟨RX7, "giveBack", "(I)I"⟩
abbrev cX7_paste : ByteArray := prog_9_method_25_code
def yX7_paste : MethodName := ⟨RX7, "paste", "(I)I"⟩
abbrev cX7_mark : ByteArray := prog_9_method_26_code
def yX7_mark : MethodName := ⟨RX7, "mark", "(III)I"⟩
abbrev cX7_bowing : ByteArray := prog_9_method_27_code
def yX7_bowing : MethodName := ⟨RX7, "bowing", "(III)I"⟩
abbrev cX7_bow : ByteArray := prog_9_method_28_code
def yX7_bow : MethodName := ⟨RX7, "bow", "(IIII)I"⟩
abbrev cX7_play : ByteArray := prog_9_method_29_code
def yX7_play : MethodName := ⟨RX7, "play", "()I"⟩
abbrev cX7_bars : ByteArray := prog_9_method_30_code
def yX7_bars : MethodName := ⟨RX7, "bars", "()I"⟩
abbrev cX7_notes : ByteArray := prog_9_method_31_code
def yX7_notes : MethodName := ⟨RX7, "notes", "(II)I"⟩
abbrev cX7_noteAt : ByteArray := prog_9_method_32_code
def yX7_noteAt : MethodName := ⟨RX7, "noteAt", "(III)I"⟩
abbrev cX7_version : ByteArray := prog_9_method_33_code
def yX7_version : MethodName := ⟨RX7, "version", "(II)I"⟩
abbrev cX7_time : ByteArray := prog_9_method_34_code
def yX7_time : MethodName := ⟨RX7, "time", "(I)I"⟩
abbrev cX7_timeByBars : ByteArray := prog_9_method_35_code
def yX7_timeByBars : MethodName := ⟨RX7, "timeByBars", "(I)I"⟩
abbrev cX7_isSilent : ByteArray := prog_9_method_36_code
def yX7_isSilent : MethodName := ⟨RX7, "isSilent", "(II)Z"⟩
abbrev cX7_cueFor : ByteArray := prog_9_method_37_code
def yX7_cueFor : MethodName := ⟨RX7, "cueFor", "(II)I"⟩
abbrev cX7_adds : ByteArray := prog_9_method_38_code
def yX7_adds : MethodName := ⟨RX7, "adds", "(III)V"⟩
abbrev cX7_laysItems : ByteArray := prog_9_method_39_code
def yX7_laysItems : MethodName := ⟨RX7, "laysItems", "(I)V"⟩
abbrev cX7_begins : ByteArray := prog_9_method_40_code
def yX7_begins : MethodName := ⟨RX7, "begins", "(III)I"⟩
abbrev cX7_halvings : ByteArray := prog_9_method_41_code
def yX7_halvings : MethodName := ⟨RX7, "halvings", "(I)I"⟩
abbrev cX7_laysSprings : ByteArray := prog_9_method_42_code
def yX7_laysSprings : MethodName := ⟨RX7, "laysSprings", "()V"⟩
abbrev cX7_silentTo : ByteArray := prog_9_method_43_code
def yX7_silentTo : MethodName := ⟨RX7, "silentTo", "(II)I"⟩
abbrev cX7_silentFrom : ByteArray := prog_9_method_44_code
def yX7_silentFrom : MethodName := ⟨RX7, "silentFrom", "(II)I"⟩
abbrev cX7_turnCost : ByteArray := prog_9_method_45_code
def yX7_turnCost : MethodName := ⟨RX7, "turnCost", "(II)I"⟩
abbrev cX7_badness : ByteArray := prog_9_method_46_code
def yX7_badness : MethodName := ⟨RX7, "badness", "(IZ)I"⟩
abbrev cX7_breaks : ByteArray := prog_9_method_47_code
def yX7_breaks : MethodName := ⟨RX7, "breaks", "(I)V"⟩
abbrev cX7_lays : ByteArray := prog_9_method_48_code
def yX7_lays : MethodName := ⟨RX7, "lays", "(I)V"⟩
abbrev cX7_itemWith : ByteArray := prog_9_method_49_code
def yX7_itemWith : MethodName := ⟨RX7, "itemWith", "(I)I"⟩
abbrev cX7_items : ByteArray := prog_9_method_50_code
def yX7_items : MethodName := ⟨RX7, "items", "(I)I"⟩
abbrev cX7_itemOf : ByteArray := prog_9_method_51_code
def yX7_itemOf : MethodName := ⟨RX7, "itemOf", "(II)I"⟩
abbrev cX7_cue : ByteArray := prog_9_method_52_code
def yX7_cue : MethodName := ⟨RX7, "cue", "(II)I"⟩
abbrev cX7_width : ByteArray := prog_9_method_53_code
def yX7_width : MethodName := ⟨RX7, "width", "(II)I"⟩
abbrev cX7_lines : ByteArray := prog_9_method_54_code
def yX7_lines : MethodName := ⟨RX7, "lines", "(I)I"⟩
abbrev cX7_lineOf : ByteArray := prog_9_method_55_code
def yX7_lineOf : MethodName := ⟨RX7, "lineOf", "(II)I"⟩
abbrev cX7_cost : ByteArray := prog_9_method_56_code
def yX7_cost : MethodName := ⟨RX7, "cost", "(I)I"⟩
abbrev cX7_costByAll : ByteArray := prog_9_method_57_code
def yX7_costByAll : MethodName := ⟨RX7, "costByAll", "(I)I"⟩
abbrev cX7_turns : ByteArray := prog_9_method_58_code
def yX7_turns : MethodName := ⟨RX7, "turns", "(I)I"⟩
abbrev cX7_springAt : ByteArray := prog_9_method_59_code
def yX7_springAt : MethodName := ⟨RX7, "springAt", "(II)I"⟩
abbrev cX7_placeOf : ByteArray := prog_9_method_60_code
def yX7_placeOf : MethodName := ⟨RX7, "placeOf", "(II)I"⟩
abbrev cX7_place : ByteArray := prog_9_method_61_code
def yX7_place : MethodName := ⟨RX7, "place", "(III)I"⟩
abbrev cX7_copies : ByteArray := prog_9_method_62_code
def yX7_copies : MethodName := ⟨RX7, "copies", "()I"⟩
abbrev cX7_deskOf : ByteArray := prog_9_method_63_code
def yX7_deskOf : MethodName := ⟨RX7, "deskOf", "(I)I"⟩
abbrev cX7_has : ByteArray := prog_9_method_64_code
def yX7_has : MethodName := ⟨RX7, "has", "(II)I"⟩
abbrev cX7_owed : ByteArray := prog_9_method_65_code
def yX7_owed : MethodName := ⟨RX7, "owed", "(I)I"⟩
abbrev cX7_markOf : ByteArray := prog_9_method_66_code
def yX7_markOf : MethodName := ⟨RX7, "markOf", "(III)I"⟩
abbrev cX7_oldMarks : ByteArray := prog_9_method_67_code
def yX7_oldMarks : MethodName := ⟨RX7, "oldMarks", "(I)I"⟩
abbrev cX7_clashes : ByteArray := prog_9_method_68_code
def yX7_clashes : MethodName := ⟨RX7, "clashes", "(I)I"⟩
abbrev cX7_concerts : ByteArray := prog_9_method_69_code
def yX7_concerts : MethodName := ⟨RX7, "concerts", "()I"⟩
def RJx145de : String := "java/io/Serializable"
def TJx145de : u_T := fun k => match k with
  | _ => ("", "", "", false)
def tyJx145de : Nat → FieldType := fun k => match k with
  | _ => .int
abbrev wsJx145de0 : List Cond := u_ws RJx145de TJx145de 0
theorem nmJx145de : ∀ a, a < 0 → ∀ b, b < 0 → a ≠ b → (TJx145de a).2.1 ≠ (TJx145de b).2.1 := by decide +kernel
theorem tyJx145de_ok : ∀ k, k < 0 → parseFieldDescriptor (TJx145de k).2.2.1 = some (tyJx145de k) := by decide +kernel
def RJ9 : String := "java/lang/Math"
def TJ9 : u_T := fun k => match k with
  | _ => ("", "", "", false)
def tyJ9 : Nat → FieldType := fun k => match k with
  | _ => .int
abbrev wsJ90 : List Cond := u_ws RJ9 TJ9 0
theorem nmJ9 : ∀ a, a < 0 → ∀ b, b < 0 → a ≠ b → (TJ9 a).2.1 ≠ (TJ9 b).2.1 := by decide +kernel
theorem tyJ9_ok : ∀ k, k < 0 → parseFieldDescriptor (TJ9 k).2.2.1 = some (tyJ9 k) := by decide +kernel
abbrev cJ9_max_7cf53 : ByteArray := prog_14_method_65_code
def yJ9_max_7cf53 : MethodName := ⟨RJ9, "max", "(II)I"⟩
abbrev cJ9_min_7cf53 : ByteArray := prog_14_method_69_code
def yJ9_min_7cf53 : MethodName := ⟨RJ9, "min", "(II)I"⟩
def RJ0 : String := "java/lang/String"
def TJ0 : u_T := fun k => match k with
  | _ => ("", "", "", false)
def tyJ0 : Nat → FieldType := fun k => match k with
  | _ => .int
abbrev wsJ00 : List Cond := u_ws RJ0 TJ0 0
theorem nmJ0 : ∀ a, a < 0 → ∀ b, b < 0 → a ≠ b → (TJ0 a).2.1 ≠ (TJ0 b).2.1 := by decide +kernel
theorem tyJ0_ok : ∀ k, k < 0 → parseFieldDescriptor (TJ0 k).2.2.1 = some (tyJ0 k) := by decide +kernel
def RJ7 : String := "java/util/Arrays"
def TJ7 : u_T := fun k => match k with
  | _ => ("", "", "", false)
def tyJ7 : Nat → FieldType := fun k => match k with
  | _ => .int
abbrev wsJ70 : List Cond := u_ws RJ7 TJ7 0
theorem nmJ7 : ∀ a, a < 0 → ∀ b, b < 0 → a ≠ b → (TJ7 a).2.1 ≠ (TJ7 b).2.1 := by decide +kernel
theorem tyJ7_ok : ∀ k, k < 0 → parseFieldDescriptor (TJ7 k).2.2.1 = some (tyJ7 k) := by decide +kernel
abbrev cJ7_fill_53178 : ByteArray := prog_18_method_103_code
def yJ7_fill_53178 : MethodName := ⟨RJ7, "fill", "([II)V"⟩
def RL : String := "StavehouseLaw"
abbrev cL_bar : ByteArray := method_3_code
def yL_bar : MethodName := ⟨RL, "bar", "(LStavehouse;I[J)I"⟩
abbrev cL_note : ByteArray := method_4_code
def yL_note : MethodName := ⟨RL, "note", "(LStavehouse;IIII[J)I"⟩
abbrev cL_mend : ByteArray := method_5_code
def yL_mend : MethodName := ⟨RL, "mend", "(LStavehouse;IIII[J)I"⟩
abbrev cL_empty : ByteArray := method_6_code
def yL_empty : MethodName := ⟨RL, "empty", "(LStavehouse;II[J)I"⟩
abbrev cL_setPaper : ByteArray := method_7_code
def yL_setPaper : MethodName := ⟨RL, "setPaper", "(LStavehouse;II[J)I"⟩
abbrev cL_copy : ByteArray := method_8_code
def yL_copy : MethodName := ⟨RL, "copy", "(LStavehouse;I[J)I"⟩
abbrev cL_lend : ByteArray := method_9_code
def yL_lend : MethodName := ⟨RL, "lend", "(LStavehouse;II[J)I"⟩
abbrev cL_giveBack : ByteArray := method_10_code
def yL_giveBack : MethodName := ⟨RL, "giveBack", "(LStavehouse;I[J)I"⟩
abbrev cL_paste : ByteArray := method_11_code
def yL_paste : MethodName := ⟨RL, "paste", "(LStavehouse;I[J)I"⟩
abbrev cL_mark : ByteArray := method_12_code
def yL_mark : MethodName := ⟨RL, "mark", "(LStavehouse;III[J)I"⟩
abbrev cL_bow : ByteArray := method_13_code
def yL_bow : MethodName := ⟨RL, "bow", "(LStavehouse;IIII[J)I"⟩
abbrev cL_play : ByteArray := method_14_code
def yL_play : MethodName := ⟨RL, "play", "(LStavehouse;[J)I"⟩
abbrev cL_notes : ByteArray := method_15_code
def yL_notes : MethodName := ⟨RL, "notes", "(LStavehouse;II[J)I"⟩
abbrev cL_noteAt : ByteArray := method_16_code
def yL_noteAt : MethodName := ⟨RL, "noteAt", "(LStavehouse;III[J)I"⟩
abbrev cL_version : ByteArray := method_17_code
def yL_version : MethodName := ⟨RL, "version", "(LStavehouse;II[J)I"⟩
abbrev cL_time : ByteArray := method_18_code
def yL_time : MethodName := ⟨RL, "time", "(LStavehouse;I[J)I"⟩
abbrev cL_timeByBars : ByteArray := method_19_code
def yL_timeByBars : MethodName := ⟨RL, "timeByBars", "(LStavehouse;I[J)I"⟩
abbrev cL_items : ByteArray := method_20_code
def yL_items : MethodName := ⟨RL, "items", "(LStavehouse;I[J)I"⟩
abbrev cL_itemOf : ByteArray := method_21_code
def yL_itemOf : MethodName := ⟨RL, "itemOf", "(LStavehouse;II[J)I"⟩
abbrev cL_cue : ByteArray := method_22_code
def yL_cue : MethodName := ⟨RL, "cue", "(LStavehouse;II[J)I"⟩
abbrev cL_width : ByteArray := method_23_code
def yL_width : MethodName := ⟨RL, "width", "(LStavehouse;II[J)I"⟩
abbrev cL_lines : ByteArray := method_24_code
def yL_lines : MethodName := ⟨RL, "lines", "(LStavehouse;I[J)I"⟩
abbrev cL_lineOf : ByteArray := method_25_code
def yL_lineOf : MethodName := ⟨RL, "lineOf", "(LStavehouse;II[J)I"⟩
abbrev cL_cost : ByteArray := method_26_code
def yL_cost : MethodName := ⟨RL, "cost", "(LStavehouse;I[J)I"⟩
abbrev cL_costByAll : ByteArray := method_27_code
def yL_costByAll : MethodName := ⟨RL, "costByAll", "(LStavehouse;I[J)I"⟩
abbrev cL_turns : ByteArray := method_28_code
def yL_turns : MethodName := ⟨RL, "turns", "(LStavehouse;I[J)I"⟩
abbrev cL_place : ByteArray := method_29_code
def yL_place : MethodName := ⟨RL, "place", "(LStavehouse;III[J)I"⟩
abbrev cL_deskOf : ByteArray := method_30_code
def yL_deskOf : MethodName := ⟨RL, "deskOf", "(LStavehouse;I[J)I"⟩
abbrev cL_has : ByteArray := method_31_code
def yL_has : MethodName := ⟨RL, "has", "(LStavehouse;II[J)I"⟩
abbrev cL_owed : ByteArray := method_32_code
def yL_owed : MethodName := ⟨RL, "owed", "(LStavehouse;I[J)I"⟩
abbrev cL_markOf : ByteArray := method_33_code
def yL_markOf : MethodName := ⟨RL, "markOf", "(LStavehouse;III[J)I"⟩
abbrev cL_oldMarks : ByteArray := method_34_code
def yL_oldMarks : MethodName := ⟨RL, "oldMarks", "(LStavehouse;I[J)I"⟩
abbrev cL_clashes : ByteArray := method_35_code
def yL_clashes : MethodName := ⟨RL, "clashes", "(LStavehouse;I[J)I"⟩
abbrev cL_law : ByteArray := code
def yL_law : MethodName := ⟨RL, "law", "([I)Z"⟩
def sx_str : List (String × Nat × String) := [("Stavehouse", 251, "a value is out of range"), ("Stavehouse", 58, "there are 12 bars"), ("Stavehouse", 247, "there is no such number"), ("Stavehouse", 75, "the instrument has 8 notes there"), ("Stavehouse", 83, "the notes would be longer than the bar"), ("Stavehouse", 108, "there are 16 copies"), ("Stavehouse", 117, "the copy is with a desk"), ("Stavehouse", 123, "the desk has a copy of this instrument"), ("Stavehouse", 254, "the copy is at home"), ("Stavehouse", 146, "the copy lacks the bar"), ("Stavehouse", 160, "the copy owes the bar"), ("Stavehouse", 169, "no copy is with a desk"), ("Stavehouse", 174, "a copy owes a bar"), ("Stavehouse", 230, "no spring begins there")]
abbrev vwCl : List vw_C := [(RX0, TX0, 9), (RX1, TX1, 4), (RX2, TX2, 4), (RX3, TX3, 11), (RX4, TX4, 7), (RX5, TX5, 5), (RX6, TX6, 7), (RX7, TX7, 34)]
end
section
theorem dX0_init_0 : decode cX0_init 0 = .ok (.aload_n 0, 1) := by decide +kernel
theorem dX0_init_1 : decode cX0_init 1 = .ok (.invokespecial 3, 3) := by decide +kernel
theorem dX0_init_4 : decode cX0_init 4 = .ok (.aload_n 0, 1) := by decide +kernel
theorem dX0_init_5 : decode cX0_init 5 = .ok (.new 9, 3) := by decide +kernel
theorem dX0_init_8 : decode cX0_init 8 = .ok (.dup, 1) := by decide +kernel
theorem dX0_init_9 : decode cX0_init 9 = .ok (.invokespecial 11, 3) := by decide +kernel
theorem dX0_init_12 : decode cX0_init 12 = .ok (.putfield 12, 3) := by decide +kernel
theorem dX0_init_15 : decode cX0_init 15 = .ok (.aload_n 0, 1) := by decide +kernel
theorem dX0_init_16 : decode cX0_init 16 = .ok (.bipush 12, 2) := by decide +kernel
theorem dX0_init_18 : decode cX0_init 18 = .ok (.newarray .int, 2) := by decide +kernel
theorem dX0_init_20 : decode cX0_init 20 = .ok (.putfield 18, 3) := by decide +kernel
theorem dX0_init_23 : decode cX0_init 23 = .ok (.aload_n 0, 1) := by decide +kernel
theorem dX0_init_24 : decode cX0_init 24 = .ok (.bipush 12, 2) := by decide +kernel
theorem dX0_init_26 : decode cX0_init 26 = .ok (.newarray .int, 2) := by decide +kernel
theorem dX0_init_28 : decode cX0_init 28 = .ok (.putfield 22, 3) := by decide +kernel
theorem dX0_init_31 : decode cX0_init 31 = .ok (.aload_n 0, 1) := by decide +kernel
theorem dX0_init_32 : decode cX0_init 32 = .ok (.bipush 12, 2) := by decide +kernel
theorem dX0_init_34 : decode cX0_init 34 = .ok (.newarray .int, 2) := by decide +kernel
theorem dX0_init_36 : decode cX0_init 36 = .ok (.putfield 25, 3) := by decide +kernel
theorem dX0_init_39 : decode cX0_init 39 = .ok (.aload_n 0, 1) := by decide +kernel
theorem dX0_init_40 : decode cX0_init 40 = .ok (.bipush 13, 2) := by decide +kernel
theorem dX0_init_42 : decode cX0_init 42 = .ok (.newarray .int, 2) := by decide +kernel
theorem dX0_init_44 : decode cX0_init 44 = .ok (.putfield 28, 3) := by decide +kernel
theorem dX0_init_47 : decode cX0_init 47 = .ok (.aload_n 0, 1) := by decide +kernel
theorem dX0_init_48 : decode cX0_init 48 = .ok (.bipush 13, 2) := by decide +kernel
theorem dX0_init_50 : decode cX0_init 50 = .ok (.newarray .int, 2) := by decide +kernel
theorem dX0_init_52 : decode cX0_init 52 = .ok (.putfield 31, 3) := by decide +kernel
theorem dX0_init_55 : decode cX0_init 55 = .ok (.aload_n 0, 1) := by decide +kernel
theorem dX0_init_56 : decode cX0_init 56 = .ok (.aload_n 1, 1) := by decide +kernel
theorem dX0_init_57 : decode cX0_init 57 = .ok (.putfield 34, 3) := by decide +kernel
theorem dX0_init_60 : decode cX0_init 60 = .ok (.return_, 1) := by decide +kernel
theorem dX0_gather_0 : decode cX0_gather 0 = .ok (.aload_n 0, 1) := by decide +kernel
theorem dX0_gather_1 : decode cX0_gather 1 = .ok (.iload_n 1, 1) := by decide +kernel
theorem dX0_gather_2 : decode cX0_gather 2 = .ok (.putfield 38, 3) := by decide +kernel
theorem dX0_gather_5 : decode cX0_gather 5 = .ok (.aload_n 0, 1) := by decide +kernel
theorem dX0_gather_6 : decode cX0_gather 6 = .ok (.iconst 0, 1) := by decide +kernel
theorem dX0_gather_7 : decode cX0_gather 7 = .ok (.putfield 42, 3) := by decide +kernel
theorem dX0_gather_10 : decode cX0_gather 10 = .ok (.iconst 0, 1) := by decide +kernel
theorem dX0_gather_11 : decode cX0_gather 11 = .ok (.istore_n 2, 1) := by decide +kernel
theorem dX0_gather_12 : decode cX0_gather 12 = .ok (.iload_n 2, 1) := by decide +kernel
theorem dX0_gather_13 : decode cX0_gather 13 = .ok (.aload_n 0, 1) := by decide +kernel
theorem dX0_gather_14 : decode cX0_gather 14 = .ok (.getfield 34, 3) := by decide +kernel
theorem dX0_gather_17 : decode cX0_gather 17 = .ok (.getfield 45, 3) := by decide +kernel
theorem dX0_gather_20 : decode cX0_gather 20 = .ok (.if_icmp .ge 72, 3) := by decide +kernel
theorem dX0_gather_23 : decode cX0_gather 23 = .ok (.aload_n 0, 1) := by decide +kernel
theorem dX0_gather_24 : decode cX0_gather 24 = .ok (.iload_n 2, 1) := by decide +kernel
theorem dX0_gather_25 : decode cX0_gather 25 = .ok (.invokevirtual 50, 3) := by decide +kernel
theorem dX0_gather_28 : decode cX0_gather 28 = .ok (.istore_n 3, 1) := by decide +kernel
theorem dX0_gather_29 : decode cX0_gather 29 = .ok (.iload_n 3, 1) := by decide +kernel
theorem dX0_gather_30 : decode cX0_gather 30 = .ok (.iconst (-1), 1) := by decide +kernel
theorem dX0_gather_31 : decode cX0_gather 31 = .ok (.if_icmp .ne 29, 3) := by decide +kernel
theorem dX0_gather_34 : decode cX0_gather 34 = .ok (.aload_n 0, 1) := by decide +kernel
theorem dX0_gather_35 : decode cX0_gather 35 = .ok (.getfield 42, 3) := by decide +kernel
theorem dX0_gather_38 : decode cX0_gather 38 = .ok (.ifCond .le 22, 3) := by decide +kernel
theorem dX0_gather_41 : decode cX0_gather 41 = .ok (.aload_n 0, 1) := by decide +kernel
theorem dX0_gather_42 : decode cX0_gather 42 = .ok (.getfield 25, 3) := by decide +kernel
theorem dX0_gather_45 : decode cX0_gather 45 = .ok (.aload_n 0, 1) := by decide +kernel
theorem dX0_gather_46 : decode cX0_gather 46 = .ok (.getfield 42, 3) := by decide +kernel
theorem dX0_gather_49 : decode cX0_gather 49 = .ok (.iconst 1, 1) := by decide +kernel
theorem dX0_gather_50 : decode cX0_gather 50 = .ok (.isub, 1) := by decide +kernel
theorem dX0_gather_51 : decode cX0_gather 51 = .ok (.iaload, 1) := by decide +kernel
theorem dX0_gather_52 : decode cX0_gather 52 = .ok (.iconst (-1), 1) := by decide +kernel
theorem dX0_gather_53 : decode cX0_gather 53 = .ok (.if_icmp .ne 7, 3) := by decide +kernel
theorem dX0_gather_56 : decode cX0_gather 56 = .ok (.iconst 1, 1) := by decide +kernel
theorem dX0_gather_57 : decode cX0_gather 57 = .ok (.goto 4, 3) := by decide +kernel
theorem dX0_gather_60 : decode cX0_gather 60 = .ok (.iconst 0, 1) := by decide +kernel
theorem dX0_gather_61 : decode cX0_gather 61 = .ok (.istore 4, 2) := by decide +kernel
theorem dX0_gather_63 : decode cX0_gather 63 = .ok (.iload 4, 2) := by decide +kernel
theorem dX0_gather_65 : decode cX0_gather 65 = .ok (.ifCond .ne 9, 3) := by decide +kernel
theorem dX0_gather_68 : decode cX0_gather 68 = .ok (.aload_n 0, 1) := by decide +kernel
theorem dX0_gather_69 : decode cX0_gather 69 = .ok (.iload_n 2, 1) := by decide +kernel
theorem dX0_gather_70 : decode cX0_gather 70 = .ok (.iload_n 3, 1) := by decide +kernel
theorem dX0_gather_71 : decode cX0_gather 71 = .ok (.invokevirtual 54, 3) := by decide +kernel
theorem dX0_gather_74 : decode cX0_gather 74 = .ok (.aload_n 0, 1) := by decide +kernel
theorem dX0_gather_75 : decode cX0_gather 75 = .ok (.getfield 22, 3) := by decide +kernel
theorem dX0_gather_78 : decode cX0_gather 78 = .ok (.iload_n 2, 1) := by decide +kernel
theorem dX0_gather_79 : decode cX0_gather 79 = .ok (.aload_n 0, 1) := by decide +kernel
theorem dX0_gather_80 : decode cX0_gather 80 = .ok (.getfield 42, 3) := by decide +kernel
theorem dX0_gather_83 : decode cX0_gather 83 = .ok (.iconst 1, 1) := by decide +kernel
theorem dX0_gather_84 : decode cX0_gather 84 = .ok (.isub, 1) := by decide +kernel
theorem dX0_gather_85 : decode cX0_gather 85 = .ok (.iastore, 1) := by decide +kernel
theorem dX0_gather_86 : decode cX0_gather 86 = .ok (.iinc 2 1, 3) := by decide +kernel
theorem dX0_gather_89 : decode cX0_gather 89 = .ok (.goto (-77), 3) := by decide +kernel
theorem dX0_gather_92 : decode cX0_gather 92 = .ok (.return_, 1) := by decide +kernel
theorem dX0_drawerOf_0 : decode cX0_drawerOf 0 = .ok (.aload_n 0, 1) := by decide +kernel
theorem dX0_drawerOf_1 : decode cX0_drawerOf 1 = .ok (.getfield 38, 3) := by decide +kernel
theorem dX0_drawerOf_4 : decode cX0_drawerOf 4 = .ok (.iconst 5, 1) := by decide +kernel
theorem dX0_drawerOf_5 : decode cX0_drawerOf 5 = .ok (.if_icmp .eq 18, 3) := by decide +kernel
theorem dX0_drawerOf_8 : decode cX0_drawerOf 8 = .ok (.aload_n 0, 1) := by decide +kernel
theorem dX0_drawerOf_9 : decode cX0_drawerOf 9 = .ok (.getfield 34, 3) := by decide +kernel
theorem dX0_drawerOf_12 : decode cX0_drawerOf 12 = .ok (.aload_n 0, 1) := by decide +kernel
theorem dX0_drawerOf_13 : decode cX0_drawerOf 13 = .ok (.getfield 38, 3) := by decide +kernel
theorem dX0_drawerOf_16 : decode cX0_drawerOf 16 = .ok (.iload_n 1, 1) := by decide +kernel
theorem dX0_drawerOf_17 : decode cX0_drawerOf 17 = .ok (.invokevirtual 58, 3) := by decide +kernel
theorem dX0_drawerOf_20 : decode cX0_drawerOf 20 = .ok (.ifCond .ne 8, 3) := by decide +kernel
theorem dX0_drawerOf_23 : decode cX0_drawerOf 23 = .ok (.aload_n 0, 1) := by decide +kernel
theorem dX0_drawerOf_24 : decode cX0_drawerOf 24 = .ok (.getfield 38, 3) := by decide +kernel
theorem dX0_drawerOf_27 : decode cX0_drawerOf 27 = .ok (.ireturn, 1) := by decide +kernel
theorem dX0_drawerOf_28 : decode cX0_drawerOf 28 = .ok (.aload_n 0, 1) := by decide +kernel
theorem dX0_drawerOf_29 : decode cX0_drawerOf 29 = .ok (.getfield 34, 3) := by decide +kernel
theorem dX0_drawerOf_32 : decode cX0_drawerOf 32 = .ok (.aload_n 0, 1) := by decide +kernel
theorem dX0_drawerOf_33 : decode cX0_drawerOf 33 = .ok (.getfield 38, 3) := by decide +kernel
theorem dX0_drawerOf_36 : decode cX0_drawerOf 36 = .ok (.iload_n 1, 1) := by decide +kernel
theorem dX0_drawerOf_37 : decode cX0_drawerOf 37 = .ok (.invokevirtual 62, 3) := by decide +kernel
theorem dX0_drawerOf_40 : decode cX0_drawerOf 40 = .ok (.ireturn, 1) := by decide +kernel
theorem dX0_addItem_0 : decode cX0_addItem 0 = .ok (.aload_n 0, 1) := by decide +kernel
theorem dX0_addItem_1 : decode cX0_addItem 1 = .ok (.getfield 18, 3) := by decide +kernel
theorem dX0_addItem_4 : decode cX0_addItem 4 = .ok (.aload_n 0, 1) := by decide +kernel
theorem dX0_addItem_5 : decode cX0_addItem 5 = .ok (.getfield 42, 3) := by decide +kernel
theorem dX0_addItem_8 : decode cX0_addItem 8 = .ok (.iload_n 1, 1) := by decide +kernel
theorem dX0_addItem_9 : decode cX0_addItem 9 = .ok (.iastore, 1) := by decide +kernel
theorem dX0_addItem_10 : decode cX0_addItem 10 = .ok (.aload_n 0, 1) := by decide +kernel
theorem dX0_addItem_11 : decode cX0_addItem 11 = .ok (.getfield 25, 3) := by decide +kernel
theorem dX0_addItem_14 : decode cX0_addItem 14 = .ok (.aload_n 0, 1) := by decide +kernel
theorem dX0_addItem_15 : decode cX0_addItem 15 = .ok (.getfield 42, 3) := by decide +kernel
theorem dX0_addItem_18 : decode cX0_addItem 18 = .ok (.iload_n 2, 1) := by decide +kernel
theorem dX0_addItem_19 : decode cX0_addItem 19 = .ok (.iastore, 1) := by decide +kernel
theorem dX0_addItem_20 : decode cX0_addItem 20 = .ok (.aload_n 0, 1) := by decide +kernel
theorem dX0_addItem_21 : decode cX0_addItem 21 = .ok (.getfield 12, 3) := by decide +kernel
theorem dX0_addItem_24 : decode cX0_addItem 24 = .ok (.aload_n 0, 1) := by decide +kernel
theorem dX0_addItem_25 : decode cX0_addItem 25 = .ok (.getfield 34, 3) := by decide +kernel
theorem dX0_addItem_28 : decode cX0_addItem 28 = .ok (.iload_n 2, 1) := by decide +kernel
theorem dX0_addItem_29 : decode cX0_addItem 29 = .ok (.iload_n 1, 1) := by decide +kernel
theorem dX0_addItem_30 : decode cX0_addItem 30 = .ok (.invokevirtual 66, 3) := by decide +kernel
theorem dX0_addItem_33 : decode cX0_addItem 33 = .ok (.aload_n 0, 1) := by decide +kernel
theorem dX0_addItem_34 : decode cX0_addItem 34 = .ok (.getfield 28, 3) := by decide +kernel
theorem dX0_addItem_37 : decode cX0_addItem 37 = .ok (.aload_n 0, 1) := by decide +kernel
theorem dX0_addItem_38 : decode cX0_addItem 38 = .ok (.getfield 42, 3) := by decide +kernel
theorem dX0_addItem_41 : decode cX0_addItem 41 = .ok (.iconst 1, 1) := by decide +kernel
theorem dX0_addItem_42 : decode cX0_addItem 42 = .ok (.iadd, 1) := by decide +kernel
theorem dX0_addItem_43 : decode cX0_addItem 43 = .ok (.aload_n 0, 1) := by decide +kernel
theorem dX0_addItem_44 : decode cX0_addItem 44 = .ok (.getfield 28, 3) := by decide +kernel
theorem dX0_addItem_47 : decode cX0_addItem 47 = .ok (.aload_n 0, 1) := by decide +kernel
theorem dX0_addItem_48 : decode cX0_addItem 48 = .ok (.getfield 42, 3) := by decide +kernel
theorem dX0_addItem_51 : decode cX0_addItem 51 = .ok (.iaload, 1) := by decide +kernel
theorem dX0_addItem_52 : decode cX0_addItem 52 = .ok (.aload_n 0, 1) := by decide +kernel
theorem dX0_addItem_53 : decode cX0_addItem 53 = .ok (.getfield 12, 3) := by decide +kernel
theorem dX0_addItem_56 : decode cX0_addItem 56 = .ok (.invokevirtual 70, 3) := by decide +kernel
theorem dX0_addItem_59 : decode cX0_addItem 59 = .ok (.iadd, 1) := by decide +kernel
theorem dX0_addItem_60 : decode cX0_addItem 60 = .ok (.iastore, 1) := by decide +kernel
theorem dX0_addItem_61 : decode cX0_addItem 61 = .ok (.aload_n 0, 1) := by decide +kernel
theorem dX0_addItem_62 : decode cX0_addItem 62 = .ok (.getfield 31, 3) := by decide +kernel
theorem dX0_addItem_65 : decode cX0_addItem 65 = .ok (.aload_n 0, 1) := by decide +kernel
theorem dX0_addItem_66 : decode cX0_addItem 66 = .ok (.getfield 42, 3) := by decide +kernel
theorem dX0_addItem_69 : decode cX0_addItem 69 = .ok (.iconst 1, 1) := by decide +kernel
theorem dX0_addItem_70 : decode cX0_addItem 70 = .ok (.iadd, 1) := by decide +kernel
theorem dX0_addItem_71 : decode cX0_addItem 71 = .ok (.aload_n 0, 1) := by decide +kernel
theorem dX0_addItem_72 : decode cX0_addItem 72 = .ok (.getfield 31, 3) := by decide +kernel
theorem dX0_addItem_75 : decode cX0_addItem 75 = .ok (.aload_n 0, 1) := by decide +kernel
theorem dX0_addItem_76 : decode cX0_addItem 76 = .ok (.getfield 42, 3) := by decide +kernel
theorem dX0_addItem_79 : decode cX0_addItem 79 = .ok (.iaload, 1) := by decide +kernel
theorem dX0_addItem_80 : decode cX0_addItem 80 = .ok (.aload_n 0, 1) := by decide +kernel
theorem dX0_addItem_81 : decode cX0_addItem 81 = .ok (.getfield 12, 3) := by decide +kernel
theorem dX0_addItem_84 : decode cX0_addItem 84 = .ok (.invokevirtual 74, 3) := by decide +kernel
theorem dX0_addItem_87 : decode cX0_addItem 87 = .ok (.iadd, 1) := by decide +kernel
theorem dX0_addItem_88 : decode cX0_addItem 88 = .ok (.iastore, 1) := by decide +kernel
theorem dX0_addItem_89 : decode cX0_addItem 89 = .ok (.aload_n 0, 1) := by decide +kernel
theorem dX0_addItem_90 : decode cX0_addItem 90 = .ok (.dup, 1) := by decide +kernel
theorem dX0_addItem_91 : decode cX0_addItem 91 = .ok (.getfield 42, 3) := by decide +kernel
theorem dX0_addItem_94 : decode cX0_addItem 94 = .ok (.iconst 1, 1) := by decide +kernel
theorem dX0_addItem_95 : decode cX0_addItem 95 = .ok (.iadd, 1) := by decide +kernel
theorem dX0_addItem_96 : decode cX0_addItem 96 = .ok (.putfield 42, 3) := by decide +kernel
theorem dX0_addItem_99 : decode cX0_addItem 99 = .ok (.return_, 1) := by decide +kernel
theorem dX0_drawSpring_0 : decode cX0_drawSpring 0 = .ok (.aload_n 0, 1) := by decide +kernel
theorem dX0_drawSpring_1 : decode cX0_drawSpring 1 = .ok (.getfield 22, 3) := by decide +kernel
theorem dX0_drawSpring_4 : decode cX0_drawSpring 4 = .ok (.iload_n 1, 1) := by decide +kernel
theorem dX0_drawSpring_5 : decode cX0_drawSpring 5 = .ok (.iaload, 1) := by decide +kernel
theorem dX0_drawSpring_6 : decode cX0_drawSpring 6 = .ok (.istore_n 3, 1) := by decide +kernel
theorem dX0_drawSpring_7 : decode cX0_drawSpring 7 = .ok (.aload_n 0, 1) := by decide +kernel
theorem dX0_drawSpring_8 : decode cX0_drawSpring 8 = .ok (.getfield 12, 3) := by decide +kernel
theorem dX0_drawSpring_11 : decode cX0_drawSpring 11 = .ok (.aload_n 0, 1) := by decide +kernel
theorem dX0_drawSpring_12 : decode cX0_drawSpring 12 = .ok (.getfield 34, 3) := by decide +kernel
theorem dX0_drawSpring_15 : decode cX0_drawSpring 15 = .ok (.aload_n 0, 1) := by decide +kernel
theorem dX0_drawSpring_16 : decode cX0_drawSpring 16 = .ok (.getfield 25, 3) := by decide +kernel
theorem dX0_drawSpring_19 : decode cX0_drawSpring 19 = .ok (.iload_n 3, 1) := by decide +kernel
theorem dX0_drawSpring_20 : decode cX0_drawSpring 20 = .ok (.iaload, 1) := by decide +kernel
theorem dX0_drawSpring_21 : decode cX0_drawSpring 21 = .ok (.aload_n 0, 1) := by decide +kernel
theorem dX0_drawSpring_22 : decode cX0_drawSpring 22 = .ok (.getfield 18, 3) := by decide +kernel
theorem dX0_drawSpring_25 : decode cX0_drawSpring 25 = .ok (.iload_n 3, 1) := by decide +kernel
theorem dX0_drawSpring_26 : decode cX0_drawSpring 26 = .ok (.iaload, 1) := by decide +kernel
theorem dX0_drawSpring_27 : decode cX0_drawSpring 27 = .ok (.invokevirtual 66, 3) := by decide +kernel
theorem dX0_drawSpring_30 : decode cX0_drawSpring 30 = .ok (.aload_n 0, 1) := by decide +kernel
theorem dX0_drawSpring_31 : decode cX0_drawSpring 31 = .ok (.getfield 18, 3) := by decide +kernel
theorem dX0_drawSpring_34 : decode cX0_drawSpring 34 = .ok (.iload_n 3, 1) := by decide +kernel
theorem dX0_drawSpring_35 : decode cX0_drawSpring 35 = .ok (.iaload, 1) := by decide +kernel
theorem dX0_drawSpring_36 : decode cX0_drawSpring 36 = .ok (.iload_n 1, 1) := by decide +kernel
theorem dX0_drawSpring_37 : decode cX0_drawSpring 37 = .ok (.if_icmp .ne 14, 3) := by decide +kernel
theorem dX0_drawSpring_40 : decode cX0_drawSpring 40 = .ok (.aload_n 0, 1) := by decide +kernel
theorem dX0_drawSpring_41 : decode cX0_drawSpring 41 = .ok (.getfield 12, 3) := by decide +kernel
theorem dX0_drawSpring_44 : decode cX0_drawSpring 44 = .ok (.iload_n 2, 1) := by decide +kernel
theorem dX0_drawSpring_45 : decode cX0_drawSpring 45 = .ok (.invokevirtual 77, 3) := by decide +kernel
theorem dX0_drawSpring_48 : decode cX0_drawSpring 48 = .ok (.goto 4, 3) := by decide +kernel
theorem dX0_drawSpring_51 : decode cX0_drawSpring 51 = .ok (.iconst (-1), 1) := by decide +kernel
theorem dX0_drawSpring_52 : decode cX0_drawSpring 52 = .ok (.ireturn, 1) := by decide +kernel
theorem dX0_widthOf_0 : decode cX0_widthOf 0 = .ok (.bipush 8, 2) := by decide +kernel
theorem dX0_widthOf_2 : decode cX0_widthOf 2 = .ok (.iload_n 2, 1) := by decide +kernel
theorem dX0_widthOf_3 : decode cX0_widthOf 3 = .ok (.iload_n 1, 1) := by decide +kernel
theorem dX0_widthOf_4 : decode cX0_widthOf 4 = .ok (.isub, 1) := by decide +kernel
theorem dX0_widthOf_5 : decode cX0_widthOf 5 = .ok (.imul, 1) := by decide +kernel
theorem dX0_widthOf_6 : decode cX0_widthOf 6 = .ok (.aload_n 0, 1) := by decide +kernel
theorem dX0_widthOf_7 : decode cX0_widthOf 7 = .ok (.getfield 28, 3) := by decide +kernel
theorem dX0_widthOf_10 : decode cX0_widthOf 10 = .ok (.iload_n 2, 1) := by decide +kernel
theorem dX0_widthOf_11 : decode cX0_widthOf 11 = .ok (.iaload, 1) := by decide +kernel
theorem dX0_widthOf_12 : decode cX0_widthOf 12 = .ok (.iadd, 1) := by decide +kernel
theorem dX0_widthOf_13 : decode cX0_widthOf 13 = .ok (.aload_n 0, 1) := by decide +kernel
theorem dX0_widthOf_14 : decode cX0_widthOf 14 = .ok (.getfield 28, 3) := by decide +kernel
theorem dX0_widthOf_17 : decode cX0_widthOf 17 = .ok (.iload_n 1, 1) := by decide +kernel
theorem dX0_widthOf_18 : decode cX0_widthOf 18 = .ok (.iaload, 1) := by decide +kernel
theorem dX0_widthOf_19 : decode cX0_widthOf 19 = .ok (.isub, 1) := by decide +kernel
theorem dX0_widthOf_20 : decode cX0_widthOf 20 = .ok (.ireturn, 1) := by decide +kernel
theorem dX0_leastOf_0 : decode cX0_leastOf 0 = .ok (.bipush 8, 2) := by decide +kernel
theorem dX0_leastOf_2 : decode cX0_leastOf 2 = .ok (.iload_n 2, 1) := by decide +kernel
theorem dX0_leastOf_3 : decode cX0_leastOf 3 = .ok (.iload_n 1, 1) := by decide +kernel
theorem dX0_leastOf_4 : decode cX0_leastOf 4 = .ok (.isub, 1) := by decide +kernel
theorem dX0_leastOf_5 : decode cX0_leastOf 5 = .ok (.imul, 1) := by decide +kernel
theorem dX0_leastOf_6 : decode cX0_leastOf 6 = .ok (.aload_n 0, 1) := by decide +kernel
theorem dX0_leastOf_7 : decode cX0_leastOf 7 = .ok (.getfield 31, 3) := by decide +kernel
theorem dX0_leastOf_10 : decode cX0_leastOf 10 = .ok (.iload_n 2, 1) := by decide +kernel
theorem dX0_leastOf_11 : decode cX0_leastOf 11 = .ok (.iaload, 1) := by decide +kernel
theorem dX0_leastOf_12 : decode cX0_leastOf 12 = .ok (.iadd, 1) := by decide +kernel
theorem dX0_leastOf_13 : decode cX0_leastOf 13 = .ok (.aload_n 0, 1) := by decide +kernel
theorem dX0_leastOf_14 : decode cX0_leastOf 14 = .ok (.getfield 31, 3) := by decide +kernel
theorem dX0_leastOf_17 : decode cX0_leastOf 17 = .ok (.iload_n 1, 1) := by decide +kernel
theorem dX0_leastOf_18 : decode cX0_leastOf 18 = .ok (.iaload, 1) := by decide +kernel
theorem dX0_leastOf_19 : decode cX0_leastOf 19 = .ok (.isub, 1) := by decide +kernel
theorem dX0_leastOf_20 : decode cX0_leastOf 20 = .ok (.ireturn, 1) := by decide +kernel
theorem dX1_init_0 : decode cX1_init 0 = .ok (.aload_n 0, 1) := by decide +kernel
theorem dX1_init_1 : decode cX1_init 1 = .ok (.invokespecial 3, 3) := by decide +kernel
theorem dX1_init_4 : decode cX1_init 4 = .ok (.aload_n 0, 1) := by decide +kernel
theorem dX1_init_5 : decode cX1_init 5 = .ok (.iconst (-1), 1) := by decide +kernel
theorem dX1_init_6 : decode cX1_init 6 = .ok (.putfield 9, 3) := by decide +kernel
theorem dX1_init_9 : decode cX1_init 9 = .ok (.aload_n 0, 1) := by decide +kernel
theorem dX1_init_10 : decode cX1_init 10 = .ok (.bipush 12, 2) := by decide +kernel
theorem dX1_init_12 : decode cX1_init 12 = .ok (.newarray .int, 2) := by decide +kernel
theorem dX1_init_14 : decode cX1_init 14 = .ok (.putfield 15, 3) := by decide +kernel
theorem dX1_init_17 : decode cX1_init 17 = .ok (.aload_n 0, 1) := by decide +kernel
theorem dX1_init_18 : decode cX1_init 18 = .ok (.aload_n 1, 1) := by decide +kernel
theorem dX1_init_19 : decode cX1_init 19 = .ok (.putfield 19, 3) := by decide +kernel
theorem dX1_init_22 : decode cX1_init 22 = .ok (.return_, 1) := by decide +kernel
theorem dX1_isOut_0 : decode cX1_isOut 0 = .ok (.aload_n 0, 1) := by decide +kernel
theorem dX1_isOut_1 : decode cX1_isOut 1 = .ok (.getfield 9, 3) := by decide +kernel
theorem dX1_isOut_4 : decode cX1_isOut 4 = .ok (.iconst (-1), 1) := by decide +kernel
theorem dX1_isOut_5 : decode cX1_isOut 5 = .ok (.if_icmp .eq 7, 3) := by decide +kernel
theorem dX1_isOut_8 : decode cX1_isOut 8 = .ok (.iconst 1, 1) := by decide +kernel
theorem dX1_isOut_9 : decode cX1_isOut 9 = .ok (.goto 4, 3) := by decide +kernel
theorem dX1_isOut_12 : decode cX1_isOut 12 = .ok (.iconst 0, 1) := by decide +kernel
theorem dX1_isOut_13 : decode cX1_isOut 13 = .ok (.ireturn, 1) := by decide +kernel
theorem dX1_takeVersions_0 : decode cX1_takeVersions 0 = .ok (.iconst 0, 1) := by decide +kernel
theorem dX1_takeVersions_1 : decode cX1_takeVersions 1 = .ok (.istore_n 1, 1) := by decide +kernel
theorem dX1_takeVersions_2 : decode cX1_takeVersions 2 = .ok (.iload_n 1, 1) := by decide +kernel
theorem dX1_takeVersions_3 : decode cX1_takeVersions 3 = .ok (.bipush 12, 2) := by decide +kernel
theorem dX1_takeVersions_5 : decode cX1_takeVersions 5 = .ok (.if_icmp .ge 35, 3) := by decide +kernel
theorem dX1_takeVersions_8 : decode cX1_takeVersions 8 = .ok (.aload_n 0, 1) := by decide +kernel
theorem dX1_takeVersions_9 : decode cX1_takeVersions 9 = .ok (.getfield 15, 3) := by decide +kernel
theorem dX1_takeVersions_12 : decode cX1_takeVersions 12 = .ok (.iload_n 1, 1) := by decide +kernel
theorem dX1_takeVersions_13 : decode cX1_takeVersions 13 = .ok (.iload_n 1, 1) := by decide +kernel
theorem dX1_takeVersions_14 : decode cX1_takeVersions 14 = .ok (.aload_n 0, 1) := by decide +kernel
theorem dX1_takeVersions_15 : decode cX1_takeVersions 15 = .ok (.getfield 19, 3) := by decide +kernel
theorem dX1_takeVersions_18 : decode cX1_takeVersions 18 = .ok (.getfield 23, 3) := by decide +kernel
theorem dX1_takeVersions_21 : decode cX1_takeVersions 21 = .ok (.if_icmp .ge 11, 3) := by decide +kernel
theorem dX1_takeVersions_24 : decode cX1_takeVersions 24 = .ok (.aload_n 0, 1) := by decide +kernel
theorem dX1_takeVersions_25 : decode cX1_takeVersions 25 = .ok (.iload_n 1, 1) := by decide +kernel
theorem dX1_takeVersions_26 : decode cX1_takeVersions 26 = .ok (.invokevirtual 28, 3) := by decide +kernel
theorem dX1_takeVersions_29 : decode cX1_takeVersions 29 = .ok (.goto 4, 3) := by decide +kernel
theorem dX1_takeVersions_32 : decode cX1_takeVersions 32 = .ok (.iconst (-1), 1) := by decide +kernel
theorem dX1_takeVersions_33 : decode cX1_takeVersions 33 = .ok (.iastore, 1) := by decide +kernel
theorem dX1_takeVersions_34 : decode cX1_takeVersions 34 = .ok (.iinc 1 1, 3) := by decide +kernel
theorem dX1_takeVersions_37 : decode cX1_takeVersions 37 = .ok (.goto (-35), 3) := by decide +kernel
theorem dX1_takeVersions_40 : decode cX1_takeVersions 40 = .ok (.return_, 1) := by decide +kernel
theorem dX1_scoreVersion_0 : decode cX1_scoreVersion 0 = .ok (.aload_n 0, 1) := by decide +kernel
theorem dX1_scoreVersion_1 : decode cX1_scoreVersion 1 = .ok (.getfield 19, 3) := by decide +kernel
theorem dX1_scoreVersion_4 : decode cX1_scoreVersion 4 = .ok (.getfield 32, 3) := by decide +kernel
theorem dX1_scoreVersion_7 : decode cX1_scoreVersion 7 = .ok (.aload_n 0, 1) := by decide +kernel
theorem dX1_scoreVersion_8 : decode cX1_scoreVersion 8 = .ok (.getfield 35, 3) := by decide +kernel
theorem dX1_scoreVersion_11 : decode cX1_scoreVersion 11 = .ok (.iload_n 1, 1) := by decide +kernel
theorem dX1_scoreVersion_12 : decode cX1_scoreVersion 12 = .ok (.invokestatic 38, 3) := by decide +kernel
theorem dX1_scoreVersion_15 : decode cX1_scoreVersion 15 = .ok (.iaload, 1) := by decide +kernel
theorem dX1_scoreVersion_16 : decode cX1_scoreVersion 16 = .ok (.ireturn, 1) := by decide +kernel
theorem dX1_versionOf_0 : decode cX1_versionOf 0 = .ok (.aload_n 0, 1) := by decide +kernel
theorem dX1_versionOf_1 : decode cX1_versionOf 1 = .ok (.invokevirtual 42, 3) := by decide +kernel
theorem dX1_versionOf_4 : decode cX1_versionOf 4 = .ok (.ifCond .eq 12, 3) := by decide +kernel
theorem dX1_versionOf_7 : decode cX1_versionOf 7 = .ok (.aload_n 0, 1) := by decide +kernel
theorem dX1_versionOf_8 : decode cX1_versionOf 8 = .ok (.getfield 15, 3) := by decide +kernel
theorem dX1_versionOf_11 : decode cX1_versionOf 11 = .ok (.iload_n 1, 1) := by decide +kernel
theorem dX1_versionOf_12 : decode cX1_versionOf 12 = .ok (.iaload, 1) := by decide +kernel
theorem dX1_versionOf_13 : decode cX1_versionOf 13 = .ok (.goto 8, 3) := by decide +kernel
theorem dX1_versionOf_16 : decode cX1_versionOf 16 = .ok (.aload_n 0, 1) := by decide +kernel
theorem dX1_versionOf_17 : decode cX1_versionOf 17 = .ok (.iload_n 1, 1) := by decide +kernel
theorem dX1_versionOf_18 : decode cX1_versionOf 18 = .ok (.invokevirtual 28, 3) := by decide +kernel
theorem dX1_versionOf_21 : decode cX1_versionOf 21 = .ok (.ireturn, 1) := by decide +kernel
theorem dX1_lacks_0 : decode cX1_lacks 0 = .ok (.aload_n 0, 1) := by decide +kernel
theorem dX1_lacks_1 : decode cX1_lacks 1 = .ok (.iload_n 1, 1) := by decide +kernel
theorem dX1_lacks_2 : decode cX1_lacks 2 = .ok (.invokevirtual 46, 3) := by decide +kernel
theorem dX1_lacks_5 : decode cX1_lacks 5 = .ok (.iconst (-1), 1) := by decide +kernel
theorem dX1_lacks_6 : decode cX1_lacks 6 = .ok (.if_icmp .ne 7, 3) := by decide +kernel
theorem dX1_lacks_9 : decode cX1_lacks 9 = .ok (.iconst 1, 1) := by decide +kernel
theorem dX1_lacks_10 : decode cX1_lacks 10 = .ok (.goto 4, 3) := by decide +kernel
theorem dX1_lacks_13 : decode cX1_lacks 13 = .ok (.iconst 0, 1) := by decide +kernel
theorem dX1_lacks_14 : decode cX1_lacks 14 = .ok (.ireturn, 1) := by decide +kernel
theorem dX1_owes_0 : decode cX1_owes 0 = .ok (.aload_n 0, 1) := by decide +kernel
theorem dX1_owes_1 : decode cX1_owes 1 = .ok (.iload_n 1, 1) := by decide +kernel
theorem dX1_owes_2 : decode cX1_owes 2 = .ok (.invokevirtual 46, 3) := by decide +kernel
theorem dX1_owes_5 : decode cX1_owes 5 = .ok (.aload_n 0, 1) := by decide +kernel
theorem dX1_owes_6 : decode cX1_owes 6 = .ok (.iload_n 1, 1) := by decide +kernel
theorem dX1_owes_7 : decode cX1_owes 7 = .ok (.invokevirtual 28, 3) := by decide +kernel
theorem dX1_owes_10 : decode cX1_owes 10 = .ok (.if_icmp .eq 7, 3) := by decide +kernel
theorem dX1_owes_13 : decode cX1_owes 13 = .ok (.iconst 1, 1) := by decide +kernel
theorem dX1_owes_14 : decode cX1_owes 14 = .ok (.goto 4, 3) := by decide +kernel
theorem dX1_owes_17 : decode cX1_owes 17 = .ok (.iconst 0, 1) := by decide +kernel
theorem dX1_owes_18 : decode cX1_owes 18 = .ok (.ireturn, 1) := by decide +kernel
theorem dX1_countDebts_0 : decode cX1_countDebts 0 = .ok (.iconst 0, 1) := by decide +kernel
theorem dX1_countDebts_1 : decode cX1_countDebts 1 = .ok (.istore_n 1, 1) := by decide +kernel
theorem dX1_countDebts_2 : decode cX1_countDebts 2 = .ok (.iconst 0, 1) := by decide +kernel
theorem dX1_countDebts_3 : decode cX1_countDebts 3 = .ok (.istore_n 2, 1) := by decide +kernel
theorem dX1_countDebts_4 : decode cX1_countDebts 4 = .ok (.iload_n 2, 1) := by decide +kernel
theorem dX1_countDebts_5 : decode cX1_countDebts 5 = .ok (.aload_n 0, 1) := by decide +kernel
theorem dX1_countDebts_6 : decode cX1_countDebts 6 = .ok (.getfield 19, 3) := by decide +kernel
theorem dX1_countDebts_9 : decode cX1_countDebts 9 = .ok (.getfield 23, 3) := by decide +kernel
theorem dX1_countDebts_12 : decode cX1_countDebts 12 = .ok (.if_icmp .ge 20, 3) := by decide +kernel
theorem dX1_countDebts_15 : decode cX1_countDebts 15 = .ok (.aload_n 0, 1) := by decide +kernel
theorem dX1_countDebts_16 : decode cX1_countDebts 16 = .ok (.iload_n 2, 1) := by decide +kernel
theorem dX1_countDebts_17 : decode cX1_countDebts 17 = .ok (.invokevirtual 49, 3) := by decide +kernel
theorem dX1_countDebts_20 : decode cX1_countDebts 20 = .ok (.ifCond .eq 6, 3) := by decide +kernel
theorem dX1_countDebts_23 : decode cX1_countDebts 23 = .ok (.iinc 1 1, 3) := by decide +kernel
theorem dX1_countDebts_26 : decode cX1_countDebts 26 = .ok (.iinc 2 1, 3) := by decide +kernel
theorem dX1_countDebts_29 : decode cX1_countDebts 29 = .ok (.goto (-25), 3) := by decide +kernel
theorem dX1_countDebts_32 : decode cX1_countDebts 32 = .ok (.iload_n 1, 1) := by decide +kernel
theorem dX1_countDebts_33 : decode cX1_countDebts 33 = .ok (.ireturn, 1) := by decide +kernel
theorem dX2_init_0 : decode cX2_init 0 = .ok (.aload_n 0, 1) := by decide +kernel
theorem dX2_init_1 : decode cX2_init 1 = .ok (.invokespecial 3, 3) := by decide +kernel
theorem dX2_init_4 : decode cX2_init 4 = .ok (.aload_n 0, 1) := by decide +kernel
theorem dX2_init_5 : decode cX2_init 5 = .ok (.bipush 60, 2) := by decide +kernel
theorem dX2_init_7 : decode cX2_init 7 = .ok (.newarray .int, 2) := by decide +kernel
theorem dX2_init_9 : decode cX2_init 9 = .ok (.putfield 9, 3) := by decide +kernel
theorem dX2_init_12 : decode cX2_init 12 = .ok (.aload_n 0, 1) := by decide +kernel
theorem dX2_init_13 : decode cX2_init 13 = .ok (.bipush 60, 2) := by decide +kernel
theorem dX2_init_15 : decode cX2_init 15 = .ok (.newarray .int, 2) := by decide +kernel
theorem dX2_init_17 : decode cX2_init 17 = .ok (.putfield 15, 3) := by decide +kernel
theorem dX2_init_20 : decode cX2_init 20 = .ok (.aload_n 0, 1) := by decide +kernel
theorem dX2_init_21 : decode cX2_init 21 = .ok (.bipush 60, 2) := by decide +kernel
theorem dX2_init_23 : decode cX2_init 23 = .ok (.newarray .int, 2) := by decide +kernel
theorem dX2_init_25 : decode cX2_init 25 = .ok (.putfield 18, 3) := by decide +kernel
theorem dX2_init_28 : decode cX2_init 28 = .ok (.aload_n 0, 1) := by decide +kernel
theorem dX2_init_29 : decode cX2_init 29 = .ok (.bipush 60, 2) := by decide +kernel
theorem dX2_init_31 : decode cX2_init 31 = .ok (.newarray .int, 2) := by decide +kernel
theorem dX2_init_33 : decode cX2_init 33 = .ok (.putfield 21, 3) := by decide +kernel
theorem dX2_init_36 : decode cX2_init 36 = .ok (.return_, 1) := by decide +kernel
theorem dX2_changeMark_0 : decode cX2_changeMark 0 = .ok (.aload_n 0, 1) := by decide +kernel
theorem dX2_changeMark_1 : decode cX2_changeMark 1 = .ok (.getfield 9, 3) := by decide +kernel
theorem dX2_changeMark_4 : decode cX2_changeMark 4 = .ok (.iload_n 1, 1) := by decide +kernel
theorem dX2_changeMark_5 : decode cX2_changeMark 5 = .ok (.iaload, 1) := by decide +kernel
theorem dX2_changeMark_6 : decode cX2_changeMark 6 = .ok (.istore 4, 2) := by decide +kernel
theorem dX2_changeMark_8 : decode cX2_changeMark 8 = .ok (.aload_n 0, 1) := by decide +kernel
theorem dX2_changeMark_9 : decode cX2_changeMark 9 = .ok (.getfield 9, 3) := by decide +kernel
theorem dX2_changeMark_12 : decode cX2_changeMark 12 = .ok (.iload_n 1, 1) := by decide +kernel
theorem dX2_changeMark_13 : decode cX2_changeMark 13 = .ok (.iload_n 2, 1) := by decide +kernel
theorem dX2_changeMark_14 : decode cX2_changeMark 14 = .ok (.iastore, 1) := by decide +kernel
theorem dX2_changeMark_15 : decode cX2_changeMark 15 = .ok (.aload_n 0, 1) := by decide +kernel
theorem dX2_changeMark_16 : decode cX2_changeMark 16 = .ok (.getfield 15, 3) := by decide +kernel
theorem dX2_changeMark_19 : decode cX2_changeMark 19 = .ok (.iload_n 1, 1) := by decide +kernel
theorem dX2_changeMark_20 : decode cX2_changeMark 20 = .ok (.iload_n 3, 1) := by decide +kernel
theorem dX2_changeMark_21 : decode cX2_changeMark 21 = .ok (.iastore, 1) := by decide +kernel
theorem dX2_changeMark_22 : decode cX2_changeMark 22 = .ok (.iload 4, 2) := by decide +kernel
theorem dX2_changeMark_24 : decode cX2_changeMark 24 = .ok (.ireturn, 1) := by decide +kernel
theorem dX2_countOldMarks_0 : decode cX2_countOldMarks 0 = .ok (.iconst 0, 1) := by decide +kernel
theorem dX2_countOldMarks_1 : decode cX2_countOldMarks 1 = .ok (.istore_n 2, 1) := by decide +kernel
theorem dX2_countOldMarks_2 : decode cX2_countOldMarks 2 = .ok (.iconst 0, 1) := by decide +kernel
theorem dX2_countOldMarks_3 : decode cX2_countOldMarks 3 = .ok (.istore_n 3, 1) := by decide +kernel
theorem dX2_countOldMarks_4 : decode cX2_countOldMarks 4 = .ok (.iload_n 3, 1) := by decide +kernel
theorem dX2_countOldMarks_5 : decode cX2_countOldMarks 5 = .ok (.bipush 60, 2) := by decide +kernel
theorem dX2_countOldMarks_7 : decode cX2_countOldMarks 7 = .ok (.if_icmp .ge 36, 3) := by decide +kernel
theorem dX2_countOldMarks_10 : decode cX2_countOldMarks 10 = .ok (.aload_n 0, 1) := by decide +kernel
theorem dX2_countOldMarks_11 : decode cX2_countOldMarks 11 = .ok (.getfield 9, 3) := by decide +kernel
theorem dX2_countOldMarks_14 : decode cX2_countOldMarks 14 = .ok (.iload_n 3, 1) := by decide +kernel
theorem dX2_countOldMarks_15 : decode cX2_countOldMarks 15 = .ok (.iaload, 1) := by decide +kernel
theorem dX2_countOldMarks_16 : decode cX2_countOldMarks 16 = .ok (.ifCond .eq 21, 3) := by decide +kernel
theorem dX2_countOldMarks_19 : decode cX2_countOldMarks 19 = .ok (.aload_n 0, 1) := by decide +kernel
theorem dX2_countOldMarks_20 : decode cX2_countOldMarks 20 = .ok (.getfield 15, 3) := by decide +kernel
theorem dX2_countOldMarks_23 : decode cX2_countOldMarks 23 = .ok (.iload_n 3, 1) := by decide +kernel
theorem dX2_countOldMarks_24 : decode cX2_countOldMarks 24 = .ok (.iaload, 1) := by decide +kernel
theorem dX2_countOldMarks_25 : decode cX2_countOldMarks 25 = .ok (.aload_n 1, 1) := by decide +kernel
theorem dX2_countOldMarks_26 : decode cX2_countOldMarks 26 = .ok (.getfield 24, 3) := by decide +kernel
theorem dX2_countOldMarks_29 : decode cX2_countOldMarks 29 = .ok (.iload_n 3, 1) := by decide +kernel
theorem dX2_countOldMarks_30 : decode cX2_countOldMarks 30 = .ok (.iaload, 1) := by decide +kernel
theorem dX2_countOldMarks_31 : decode cX2_countOldMarks 31 = .ok (.if_icmp .eq 6, 3) := by decide +kernel
theorem dX2_countOldMarks_34 : decode cX2_countOldMarks 34 = .ok (.iinc 2 1, 3) := by decide +kernel
theorem dX2_countOldMarks_37 : decode cX2_countOldMarks 37 = .ok (.iinc 3 1, 3) := by decide +kernel
theorem dX2_countOldMarks_40 : decode cX2_countOldMarks 40 = .ok (.goto (-36), 3) := by decide +kernel
theorem dX2_countOldMarks_43 : decode cX2_countOldMarks 43 = .ok (.iload_n 2, 1) := by decide +kernel
theorem dX2_countOldMarks_44 : decode cX2_countOldMarks 44 = .ok (.ireturn, 1) := by decide +kernel
theorem dX2_bowingAt_0 : decode cX2_bowingAt 0 = .ok (.aload_n 0, 1) := by decide +kernel
theorem dX2_bowingAt_1 : decode cX2_bowingAt 1 = .ok (.getfield 21, 3) := by decide +kernel
theorem dX2_bowingAt_4 : decode cX2_bowingAt 4 = .ok (.iload_n 1, 1) := by decide +kernel
theorem dX2_bowingAt_5 : decode cX2_bowingAt 5 = .ok (.iaload, 1) := by decide +kernel
theorem dX2_bowingAt_6 : decode cX2_bowingAt 6 = .ok (.iload_n 3, 1) := by decide +kernel
theorem dX2_bowingAt_7 : decode cX2_bowingAt 7 = .ok (.if_icmp .ne 18, 3) := by decide +kernel
theorem dX2_bowingAt_10 : decode cX2_bowingAt 10 = .ok (.aload_n 0, 1) := by decide +kernel
theorem dX2_bowingAt_11 : decode cX2_bowingAt 11 = .ok (.getfield 18, 3) := by decide +kernel
theorem dX2_bowingAt_14 : decode cX2_bowingAt 14 = .ok (.iload_n 1, 1) := by decide +kernel
theorem dX2_bowingAt_15 : decode cX2_bowingAt 15 = .ok (.iaload, 1) := by decide +kernel
theorem dX2_bowingAt_16 : decode cX2_bowingAt 16 = .ok (.iconst 2, 1) := by decide +kernel
theorem dX2_bowingAt_17 : decode cX2_bowingAt 17 = .ok (.iload_n 2, 1) := by decide +kernel
theorem dX2_bowingAt_18 : decode cX2_bowingAt 18 = .ok (.imul, 1) := by decide +kernel
theorem dX2_bowingAt_19 : decode cX2_bowingAt 19 = .ok (.ishr, 1) := by decide +kernel
theorem dX2_bowingAt_20 : decode cX2_bowingAt 20 = .ok (.iconst 3, 1) := by decide +kernel
theorem dX2_bowingAt_21 : decode cX2_bowingAt 21 = .ok (.iand, 1) := by decide +kernel
theorem dX2_bowingAt_22 : decode cX2_bowingAt 22 = .ok (.goto 4, 3) := by decide +kernel
theorem dX2_bowingAt_25 : decode cX2_bowingAt 25 = .ok (.iconst 0, 1) := by decide +kernel
theorem dX2_bowingAt_26 : decode cX2_bowingAt 26 = .ok (.ireturn, 1) := by decide +kernel
theorem dX2_changeBowing_0 : decode cX2_changeBowing 0 = .ok (.aload_n 0, 1) := by decide +kernel
theorem dX2_changeBowing_1 : decode cX2_changeBowing 1 = .ok (.iload_n 1, 1) := by decide +kernel
theorem dX2_changeBowing_2 : decode cX2_changeBowing 2 = .ok (.iload_n 2, 1) := by decide +kernel
theorem dX2_changeBowing_3 : decode cX2_changeBowing 3 = .ok (.iload 4, 2) := by decide +kernel
theorem dX2_changeBowing_5 : decode cX2_changeBowing 5 = .ok (.invokevirtual 29, 3) := by decide +kernel
theorem dX2_changeBowing_8 : decode cX2_changeBowing 8 = .ok (.istore 5, 2) := by decide +kernel
theorem dX2_changeBowing_10 : decode cX2_changeBowing 10 = .ok (.aload_n 0, 1) := by decide +kernel
theorem dX2_changeBowing_11 : decode cX2_changeBowing 11 = .ok (.getfield 21, 3) := by decide +kernel
theorem dX2_changeBowing_14 : decode cX2_changeBowing 14 = .ok (.iload_n 1, 1) := by decide +kernel
theorem dX2_changeBowing_15 : decode cX2_changeBowing 15 = .ok (.iaload, 1) := by decide +kernel
theorem dX2_changeBowing_16 : decode cX2_changeBowing 16 = .ok (.iload 4, 2) := by decide +kernel
theorem dX2_changeBowing_18 : decode cX2_changeBowing 18 = .ok (.if_icmp .eq 18, 3) := by decide +kernel
theorem dX2_changeBowing_21 : decode cX2_changeBowing 21 = .ok (.aload_n 0, 1) := by decide +kernel
theorem dX2_changeBowing_22 : decode cX2_changeBowing 22 = .ok (.getfield 21, 3) := by decide +kernel
theorem dX2_changeBowing_25 : decode cX2_changeBowing 25 = .ok (.iload_n 1, 1) := by decide +kernel
theorem dX2_changeBowing_26 : decode cX2_changeBowing 26 = .ok (.iload 4, 2) := by decide +kernel
theorem dX2_changeBowing_28 : decode cX2_changeBowing 28 = .ok (.iastore, 1) := by decide +kernel
theorem dX2_changeBowing_29 : decode cX2_changeBowing 29 = .ok (.aload_n 0, 1) := by decide +kernel
theorem dX2_changeBowing_30 : decode cX2_changeBowing 30 = .ok (.getfield 18, 3) := by decide +kernel
theorem dX2_changeBowing_33 : decode cX2_changeBowing 33 = .ok (.iload_n 1, 1) := by decide +kernel
theorem dX2_changeBowing_34 : decode cX2_changeBowing 34 = .ok (.iconst 0, 1) := by decide +kernel
theorem dX2_changeBowing_35 : decode cX2_changeBowing 35 = .ok (.iastore, 1) := by decide +kernel
theorem dX2_changeBowing_36 : decode cX2_changeBowing 36 = .ok (.aload_n 0, 1) := by decide +kernel
theorem dX2_changeBowing_37 : decode cX2_changeBowing 37 = .ok (.getfield 18, 3) := by decide +kernel
theorem dX2_changeBowing_40 : decode cX2_changeBowing 40 = .ok (.iload_n 1, 1) := by decide +kernel
theorem dX2_changeBowing_41 : decode cX2_changeBowing 41 = .ok (.aload_n 0, 1) := by decide +kernel
theorem dX2_changeBowing_42 : decode cX2_changeBowing 42 = .ok (.getfield 18, 3) := by decide +kernel
theorem dX2_changeBowing_45 : decode cX2_changeBowing 45 = .ok (.iload_n 1, 1) := by decide +kernel
theorem dX2_changeBowing_46 : decode cX2_changeBowing 46 = .ok (.iaload, 1) := by decide +kernel
theorem dX2_changeBowing_47 : decode cX2_changeBowing 47 = .ok (.iconst 3, 1) := by decide +kernel
theorem dX2_changeBowing_48 : decode cX2_changeBowing 48 = .ok (.iconst 2, 1) := by decide +kernel
theorem dX2_changeBowing_49 : decode cX2_changeBowing 49 = .ok (.iload_n 2, 1) := by decide +kernel
theorem dX2_changeBowing_50 : decode cX2_changeBowing 50 = .ok (.imul, 1) := by decide +kernel
theorem dX2_changeBowing_51 : decode cX2_changeBowing 51 = .ok (.ishl, 1) := by decide +kernel
theorem dX2_changeBowing_52 : decode cX2_changeBowing 52 = .ok (.iconst (-1), 1) := by decide +kernel
theorem dX2_changeBowing_53 : decode cX2_changeBowing 53 = .ok (.ixor, 1) := by decide +kernel
theorem dX2_changeBowing_54 : decode cX2_changeBowing 54 = .ok (.iand, 1) := by decide +kernel
theorem dX2_changeBowing_55 : decode cX2_changeBowing 55 = .ok (.iload_n 3, 1) := by decide +kernel
theorem dX2_changeBowing_56 : decode cX2_changeBowing 56 = .ok (.iconst 2, 1) := by decide +kernel
theorem dX2_changeBowing_57 : decode cX2_changeBowing 57 = .ok (.iload_n 2, 1) := by decide +kernel
theorem dX2_changeBowing_58 : decode cX2_changeBowing 58 = .ok (.imul, 1) := by decide +kernel
theorem dX2_changeBowing_59 : decode cX2_changeBowing 59 = .ok (.ishl, 1) := by decide +kernel
theorem dX2_changeBowing_60 : decode cX2_changeBowing 60 = .ok (.ior, 1) := by decide +kernel
theorem dX2_changeBowing_61 : decode cX2_changeBowing 61 = .ok (.iastore, 1) := by decide +kernel
theorem dX2_changeBowing_62 : decode cX2_changeBowing 62 = .ok (.iload 5, 2) := by decide +kernel
theorem dX2_changeBowing_64 : decode cX2_changeBowing 64 = .ok (.ireturn, 1) := by decide +kernel
theorem dX3_init_0 : decode cX3_init 0 = .ok (.aload_n 0, 1) := by decide +kernel
theorem dX3_init_1 : decode cX3_init 1 = .ok (.invokespecial 3, 3) := by decide +kernel
theorem dX3_init_4 : decode cX3_init 4 = .ok (.aload_n 0, 1) := by decide +kernel
theorem dX3_init_5 : decode cX3_init 5 = .ok (.sipush 200, 3) := by decide +kernel
theorem dX3_init_8 : decode cX3_init 8 = .ok (.putfield 9, 3) := by decide +kernel
theorem dX3_init_11 : decode cX3_init 11 = .ok (.aload_n 0, 1) := by decide +kernel
theorem dX3_init_12 : decode cX3_init 12 = .ok (.iconst 3, 1) := by decide +kernel
theorem dX3_init_13 : decode cX3_init 13 = .ok (.putfield 15, 3) := by decide +kernel
theorem dX3_init_16 : decode cX3_init 16 = .ok (.aload_n 0, 1) := by decide +kernel
theorem dX3_init_17 : decode cX3_init 17 = .ok (.bipush 13, 2) := by decide +kernel
theorem dX3_init_19 : decode cX3_init 19 = .ok (.newarray .int, 2) := by decide +kernel
theorem dX3_init_21 : decode cX3_init 21 = .ok (.putfield 18, 3) := by decide +kernel
theorem dX3_init_24 : decode cX3_init 24 = .ok (.aload_n 0, 1) := by decide +kernel
theorem dX3_init_25 : decode cX3_init 25 = .ok (.bipush 13, 2) := by decide +kernel
theorem dX3_init_27 : decode cX3_init 27 = .ok (.bipush 6, 2) := by decide +kernel
theorem dX3_init_29 : decode cX3_init 29 = .ok (.multianewarray 22 2, 4) := by decide +kernel
theorem dX3_init_33 : decode cX3_init 33 = .ok (.putfield 24, 3) := by decide +kernel
theorem dX3_init_36 : decode cX3_init 36 = .ok (.aload_n 0, 1) := by decide +kernel
theorem dX3_init_37 : decode cX3_init 37 = .ok (.bipush 13, 2) := by decide +kernel
theorem dX3_init_39 : decode cX3_init 39 = .ok (.bipush 6, 2) := by decide +kernel
theorem dX3_init_41 : decode cX3_init 41 = .ok (.multianewarray 22 2, 4) := by decide +kernel
theorem dX3_init_45 : decode cX3_init 45 = .ok (.putfield 27, 3) := by decide +kernel
theorem dX3_init_48 : decode cX3_init 48 = .ok (.aload_n 0, 1) := by decide +kernel
theorem dX3_init_49 : decode cX3_init 49 = .ok (.bipush 13, 2) := by decide +kernel
theorem dX3_init_51 : decode cX3_init 51 = .ok (.bipush 6, 2) := by decide +kernel
theorem dX3_init_53 : decode cX3_init 53 = .ok (.multianewarray 22 2, 4) := by decide +kernel
theorem dX3_init_57 : decode cX3_init 57 = .ok (.putfield 30, 3) := by decide +kernel
theorem dX3_init_60 : decode cX3_init 60 = .ok (.aload_n 0, 1) := by decide +kernel
theorem dX3_init_61 : decode cX3_init 61 = .ok (.bipush 13, 2) := by decide +kernel
theorem dX3_init_63 : decode cX3_init 63 = .ok (.newarray .int, 2) := by decide +kernel
theorem dX3_init_65 : decode cX3_init 65 = .ok (.putfield 33, 3) := by decide +kernel
theorem dX3_init_68 : decode cX3_init 68 = .ok (.aload_n 0, 1) := by decide +kernel
theorem dX3_init_69 : decode cX3_init 69 = .ok (.bipush 12, 2) := by decide +kernel
theorem dX3_init_71 : decode cX3_init 71 = .ok (.newarray .int, 2) := by decide +kernel
theorem dX3_init_73 : decode cX3_init 73 = .ok (.putfield 36, 3) := by decide +kernel
theorem dX3_init_76 : decode cX3_init 76 = .ok (.aload_n 0, 1) := by decide +kernel
theorem dX3_init_77 : decode cX3_init 77 = .ok (.aload_n 1, 1) := by decide +kernel
theorem dX3_init_78 : decode cX3_init 78 = .ok (.putfield 39, 3) := by decide +kernel
theorem dX3_init_81 : decode cX3_init 81 = .ok (.return_, 1) := by decide +kernel
theorem dX3_breakLines_0 : decode cX3_breakLines 0 = .ok (.aload_n 0, 1) := by decide +kernel
theorem dX3_breakLines_1 : decode cX3_breakLines 1 = .ok (.invokevirtual 43, 3) := by decide +kernel
theorem dX3_breakLines_4 : decode cX3_breakLines 4 = .ok (.iconst 0, 1) := by decide +kernel
theorem dX3_breakLines_5 : decode cX3_breakLines 5 = .ok (.istore_n 1, 1) := by decide +kernel
theorem dX3_breakLines_6 : decode cX3_breakLines 6 = .ok (.iload_n 1, 1) := by decide +kernel
theorem dX3_breakLines_7 : decode cX3_breakLines 7 = .ok (.aload_n 0, 1) := by decide +kernel
theorem dX3_breakLines_8 : decode cX3_breakLines 8 = .ok (.getfield 15, 3) := by decide +kernel
theorem dX3_breakLines_11 : decode cX3_breakLines 11 = .ok (.if_icmp .ge 39, 3) := by decide +kernel
theorem dX3_breakLines_14 : decode cX3_breakLines 14 = .ok (.aload_n 0, 1) := by decide +kernel
theorem dX3_breakLines_15 : decode cX3_breakLines 15 = .ok (.getfield 24, 3) := by decide +kernel
theorem dX3_breakLines_18 : decode cX3_breakLines 18 = .ok (.aload_n 0, 1) := by decide +kernel
theorem dX3_breakLines_19 : decode cX3_breakLines 19 = .ok (.getfield 39, 3) := by decide +kernel
theorem dX3_breakLines_22 : decode cX3_breakLines 22 = .ok (.getfield 46, 3) := by decide +kernel
theorem dX3_breakLines_25 : decode cX3_breakLines 25 = .ok (.aaload, 1) := by decide +kernel
theorem dX3_breakLines_26 : decode cX3_breakLines 26 = .ok (.iload_n 1, 1) := by decide +kernel
theorem dX3_breakLines_27 : decode cX3_breakLines 27 = .ok (.iconst 0, 1) := by decide +kernel
theorem dX3_breakLines_28 : decode cX3_breakLines 28 = .ok (.iastore, 1) := by decide +kernel
theorem dX3_breakLines_29 : decode cX3_breakLines 29 = .ok (.aload_n 0, 1) := by decide +kernel
theorem dX3_breakLines_30 : decode cX3_breakLines 30 = .ok (.getfield 27, 3) := by decide +kernel
theorem dX3_breakLines_33 : decode cX3_breakLines 33 = .ok (.aload_n 0, 1) := by decide +kernel
theorem dX3_breakLines_34 : decode cX3_breakLines 34 = .ok (.getfield 39, 3) := by decide +kernel
theorem dX3_breakLines_37 : decode cX3_breakLines 37 = .ok (.getfield 46, 3) := by decide +kernel
theorem dX3_breakLines_40 : decode cX3_breakLines 40 = .ok (.aaload, 1) := by decide +kernel
theorem dX3_breakLines_41 : decode cX3_breakLines 41 = .ok (.iload_n 1, 1) := by decide +kernel
theorem dX3_breakLines_42 : decode cX3_breakLines 42 = .ok (.iconst 0, 1) := by decide +kernel
theorem dX3_breakLines_43 : decode cX3_breakLines 43 = .ok (.iastore, 1) := by decide +kernel
theorem dX3_breakLines_44 : decode cX3_breakLines 44 = .ok (.iinc 1 1, 3) := by decide +kernel
theorem dX3_breakLines_47 : decode cX3_breakLines 47 = .ok (.goto (-41), 3) := by decide +kernel
theorem dX3_breakLines_50 : decode cX3_breakLines 50 = .ok (.aload_n 0, 1) := by decide +kernel
theorem dX3_breakLines_51 : decode cX3_breakLines 51 = .ok (.getfield 39, 3) := by decide +kernel
theorem dX3_breakLines_54 : decode cX3_breakLines 54 = .ok (.getfield 46, 3) := by decide +kernel
theorem dX3_breakLines_57 : decode cX3_breakLines 57 = .ok (.iconst 1, 1) := by decide +kernel
theorem dX3_breakLines_58 : decode cX3_breakLines 58 = .ok (.isub, 1) := by decide +kernel
theorem dX3_breakLines_59 : decode cX3_breakLines 59 = .ok (.istore_n 1, 1) := by decide +kernel
theorem dX3_breakLines_60 : decode cX3_breakLines 60 = .ok (.iload_n 1, 1) := by decide +kernel
theorem dX3_breakLines_61 : decode cX3_breakLines 61 = .ok (.ifCond .lt 31, 3) := by decide +kernel
theorem dX3_breakLines_64 : decode cX3_breakLines 64 = .ok (.iconst 0, 1) := by decide +kernel
theorem dX3_breakLines_65 : decode cX3_breakLines 65 = .ok (.istore_n 2, 1) := by decide +kernel
theorem dX3_breakLines_66 : decode cX3_breakLines 66 = .ok (.iload_n 2, 1) := by decide +kernel
theorem dX3_breakLines_67 : decode cX3_breakLines 67 = .ok (.aload_n 0, 1) := by decide +kernel
theorem dX3_breakLines_68 : decode cX3_breakLines 68 = .ok (.getfield 15, 3) := by decide +kernel
theorem dX3_breakLines_71 : decode cX3_breakLines 71 = .ok (.if_icmp .ge 15, 3) := by decide +kernel
theorem dX3_breakLines_74 : decode cX3_breakLines 74 = .ok (.aload_n 0, 1) := by decide +kernel
theorem dX3_breakLines_75 : decode cX3_breakLines 75 = .ok (.iload_n 1, 1) := by decide +kernel
theorem dX3_breakLines_76 : decode cX3_breakLines 76 = .ok (.iload_n 2, 1) := by decide +kernel
theorem dX3_breakLines_77 : decode cX3_breakLines 77 = .ok (.invokevirtual 51, 3) := by decide +kernel
theorem dX3_breakLines_80 : decode cX3_breakLines 80 = .ok (.iinc 2 1, 3) := by decide +kernel
theorem dX3_breakLines_83 : decode cX3_breakLines 83 = .ok (.goto (-17), 3) := by decide +kernel
theorem dX3_breakLines_86 : decode cX3_breakLines 86 = .ok (.iinc 1 (-1), 3) := by decide +kernel
theorem dX3_breakLines_89 : decode cX3_breakLines 89 = .ok (.goto (-29), 3) := by decide +kernel
theorem dX3_breakLines_92 : decode cX3_breakLines 92 = .ok (.aload_n 0, 1) := by decide +kernel
theorem dX3_breakLines_93 : decode cX3_breakLines 93 = .ok (.invokevirtual 55, 3) := by decide +kernel
theorem dX3_breakLines_96 : decode cX3_breakLines 96 = .ok (.return_, 1) := by decide +kernel
theorem dX3_priceTurns_0 : decode cX3_priceTurns 0 = .ok (.aload_n 0, 1) := by decide +kernel
theorem dX3_priceTurns_1 : decode cX3_priceTurns 1 = .ok (.getfield 18, 3) := by decide +kernel
theorem dX3_priceTurns_4 : decode cX3_priceTurns 4 = .ok (.iconst 0, 1) := by decide +kernel
theorem dX3_priceTurns_5 : decode cX3_priceTurns 5 = .ok (.invokestatic 58, 3) := by decide +kernel
theorem dX3_priceTurns_8 : decode cX3_priceTurns 8 = .ok (.aload_n 0, 1) := by decide +kernel
theorem dX3_priceTurns_9 : decode cX3_priceTurns 9 = .ok (.getfield 39, 3) := by decide +kernel
theorem dX3_priceTurns_12 : decode cX3_priceTurns 12 = .ok (.getfield 64, 3) := by decide +kernel
theorem dX3_priceTurns_15 : decode cX3_priceTurns 15 = .ok (.iconst 5, 1) := by decide +kernel
theorem dX3_priceTurns_16 : decode cX3_priceTurns 16 = .ok (.if_icmp .ne 4, 3) := by decide +kernel
theorem dX3_priceTurns_19 : decode cX3_priceTurns 19 = .ok (.return_, 1) := by decide +kernel
theorem dX3_priceTurns_20 : decode cX3_priceTurns 20 = .ok (.iconst 0, 1) := by decide +kernel
theorem dX3_priceTurns_21 : decode cX3_priceTurns 21 = .ok (.istore_n 1, 1) := by decide +kernel
theorem dX3_priceTurns_22 : decode cX3_priceTurns 22 = .ok (.iload_n 1, 1) := by decide +kernel
theorem dX3_priceTurns_23 : decode cX3_priceTurns 23 = .ok (.aload_n 0, 1) := by decide +kernel
theorem dX3_priceTurns_24 : decode cX3_priceTurns 24 = .ok (.getfield 39, 3) := by decide +kernel
theorem dX3_priceTurns_27 : decode cX3_priceTurns 27 = .ok (.getfield 46, 3) := by decide +kernel
theorem dX3_priceTurns_30 : decode cX3_priceTurns 30 = .ok (.if_icmp .ge 53, 3) := by decide +kernel
theorem dX3_priceTurns_33 : decode cX3_priceTurns 33 = .ok (.aload_n 0, 1) := by decide +kernel
theorem dX3_priceTurns_34 : decode cX3_priceTurns 34 = .ok (.getfield 39, 3) := by decide +kernel
theorem dX3_priceTurns_37 : decode cX3_priceTurns 37 = .ok (.getfield 67, 3) := by decide +kernel
theorem dX3_priceTurns_40 : decode cX3_priceTurns 40 = .ok (.aload_n 0, 1) := by decide +kernel
theorem dX3_priceTurns_41 : decode cX3_priceTurns 41 = .ok (.getfield 39, 3) := by decide +kernel
theorem dX3_priceTurns_44 : decode cX3_priceTurns 44 = .ok (.getfield 64, 3) := by decide +kernel
theorem dX3_priceTurns_47 : decode cX3_priceTurns 47 = .ok (.aload_n 0, 1) := by decide +kernel
theorem dX3_priceTurns_48 : decode cX3_priceTurns 48 = .ok (.getfield 39, 3) := by decide +kernel
theorem dX3_priceTurns_51 : decode cX3_priceTurns 51 = .ok (.getfield 71, 3) := by decide +kernel
theorem dX3_priceTurns_54 : decode cX3_priceTurns 54 = .ok (.iload_n 1, 1) := by decide +kernel
theorem dX3_priceTurns_55 : decode cX3_priceTurns 55 = .ok (.iaload, 1) := by decide +kernel
theorem dX3_priceTurns_56 : decode cX3_priceTurns 56 = .ok (.invokevirtual 74, 3) := by decide +kernel
theorem dX3_priceTurns_59 : decode cX3_priceTurns 59 = .ok (.istore_n 2, 1) := by decide +kernel
theorem dX3_priceTurns_60 : decode cX3_priceTurns 60 = .ok (.aload_n 0, 1) := by decide +kernel
theorem dX3_priceTurns_61 : decode cX3_priceTurns 61 = .ok (.getfield 18, 3) := by decide +kernel
theorem dX3_priceTurns_64 : decode cX3_priceTurns 64 = .ok (.iload_n 1, 1) := by decide +kernel
theorem dX3_priceTurns_65 : decode cX3_priceTurns 65 = .ok (.bipush 100, 2) := by decide +kernel
theorem dX3_priceTurns_67 : decode cX3_priceTurns 67 = .ok (.iconst 0, 1) := by decide +kernel
theorem dX3_priceTurns_68 : decode cX3_priceTurns 68 = .ok (.bipush 16, 2) := by decide +kernel
theorem dX3_priceTurns_70 : decode cX3_priceTurns 70 = .ok (.iload_n 2, 1) := by decide +kernel
theorem dX3_priceTurns_71 : decode cX3_priceTurns 71 = .ok (.isub, 1) := by decide +kernel
theorem dX3_priceTurns_72 : decode cX3_priceTurns 72 = .ok (.invokestatic 80, 3) := by decide +kernel
theorem dX3_priceTurns_75 : decode cX3_priceTurns 75 = .ok (.imul, 1) := by decide +kernel
theorem dX3_priceTurns_76 : decode cX3_priceTurns 76 = .ok (.iastore, 1) := by decide +kernel
theorem dX3_priceTurns_77 : decode cX3_priceTurns 77 = .ok (.iinc 1 1, 3) := by decide +kernel
theorem dX3_priceTurns_80 : decode cX3_priceTurns 80 = .ok (.goto (-58), 3) := by decide +kernel
theorem dX3_priceTurns_83 : decode cX3_priceTurns 83 = .ok (.return_, 1) := by decide +kernel
theorem dX3_chooseLine_0 : decode cX3_chooseLine 0 = .ok (.aload_n 0, 1) := by decide +kernel
theorem dX3_chooseLine_1 : decode cX3_chooseLine 1 = .ok (.iload_n 2, 1) := by decide +kernel
theorem dX3_chooseLine_2 : decode cX3_chooseLine 2 = .ok (.invokevirtual 85, 3) := by decide +kernel
theorem dX3_chooseLine_5 : decode cX3_chooseLine 5 = .ok (.istore_n 3, 1) := by decide +kernel
theorem dX3_chooseLine_6 : decode cX3_chooseLine 6 = .ok (.aload_n 0, 1) := by decide +kernel
theorem dX3_chooseLine_7 : decode cX3_chooseLine 7 = .ok (.getfield 24, 3) := by decide +kernel
theorem dX3_chooseLine_10 : decode cX3_chooseLine 10 = .ok (.iload_n 1, 1) := by decide +kernel
theorem dX3_chooseLine_11 : decode cX3_chooseLine 11 = .ok (.aaload, 1) := by decide +kernel
theorem dX3_chooseLine_12 : decode cX3_chooseLine 12 = .ok (.iload_n 2, 1) := by decide +kernel
theorem dX3_chooseLine_13 : decode cX3_chooseLine 13 = .ok (.ldc 89, 2) := by decide +kernel
theorem dX3_chooseLine_15 : decode cX3_chooseLine 15 = .ok (.iastore, 1) := by decide +kernel
theorem dX3_chooseLine_16 : decode cX3_chooseLine 16 = .ok (.aload_n 0, 1) := by decide +kernel
theorem dX3_chooseLine_17 : decode cX3_chooseLine 17 = .ok (.getfield 27, 3) := by decide +kernel
theorem dX3_chooseLine_20 : decode cX3_chooseLine 20 = .ok (.iload_n 1, 1) := by decide +kernel
theorem dX3_chooseLine_21 : decode cX3_chooseLine 21 = .ok (.aaload, 1) := by decide +kernel
theorem dX3_chooseLine_22 : decode cX3_chooseLine 22 = .ok (.iload_n 2, 1) := by decide +kernel
theorem dX3_chooseLine_23 : decode cX3_chooseLine 23 = .ok (.iconst 0, 1) := by decide +kernel
theorem dX3_chooseLine_24 : decode cX3_chooseLine 24 = .ok (.iastore, 1) := by decide +kernel
theorem dX3_chooseLine_25 : decode cX3_chooseLine 25 = .ok (.iload_n 1, 1) := by decide +kernel
theorem dX3_chooseLine_26 : decode cX3_chooseLine 26 = .ok (.iconst 1, 1) := by decide +kernel
theorem dX3_chooseLine_27 : decode cX3_chooseLine 27 = .ok (.iadd, 1) := by decide +kernel
theorem dX3_chooseLine_28 : decode cX3_chooseLine 28 = .ok (.istore 4, 2) := by decide +kernel
theorem dX3_chooseLine_30 : decode cX3_chooseLine 30 = .ok (.iload 4, 2) := by decide +kernel
theorem dX3_chooseLine_32 : decode cX3_chooseLine 32 = .ok (.aload_n 0, 1) := by decide +kernel
theorem dX3_chooseLine_33 : decode cX3_chooseLine 33 = .ok (.getfield 39, 3) := by decide +kernel
theorem dX3_chooseLine_36 : decode cX3_chooseLine 36 = .ok (.getfield 46, 3) := by decide +kernel
theorem dX3_chooseLine_39 : decode cX3_chooseLine 39 = .ok (.if_icmp .gt 131, 3) := by decide +kernel
theorem dX3_chooseLine_42 : decode cX3_chooseLine 42 = .ok (.aload_n 0, 1) := by decide +kernel
theorem dX3_chooseLine_43 : decode cX3_chooseLine 43 = .ok (.iload_n 1, 1) := by decide +kernel
theorem dX3_chooseLine_44 : decode cX3_chooseLine 44 = .ok (.iload 4, 2) := by decide +kernel
theorem dX3_chooseLine_46 : decode cX3_chooseLine 46 = .ok (.invokevirtual 90, 3) := by decide +kernel
theorem dX3_chooseLine_49 : decode cX3_chooseLine 49 = .ok (.ifCond .ne 6, 3) := by decide +kernel
theorem dX3_chooseLine_52 : decode cX3_chooseLine 52 = .ok (.goto 118, 3) := by decide +kernel
theorem dX3_chooseLine_55 : decode cX3_chooseLine 55 = .ok (.aload_n 0, 1) := by decide +kernel
theorem dX3_chooseLine_56 : decode cX3_chooseLine 56 = .ok (.iload_n 1, 1) := by decide +kernel
theorem dX3_chooseLine_57 : decode cX3_chooseLine 57 = .ok (.iload 4, 2) := by decide +kernel
theorem dX3_chooseLine_59 : decode cX3_chooseLine 59 = .ok (.invokevirtual 94, 3) := by decide +kernel
theorem dX3_chooseLine_62 : decode cX3_chooseLine 62 = .ok (.aload_n 0, 1) := by decide +kernel
theorem dX3_chooseLine_63 : decode cX3_chooseLine 63 = .ok (.iload 4, 2) := by decide +kernel
theorem dX3_chooseLine_65 : decode cX3_chooseLine 65 = .ok (.iload_n 3, 1) := by decide +kernel
theorem dX3_chooseLine_66 : decode cX3_chooseLine 66 = .ok (.invokevirtual 97, 3) := by decide +kernel
theorem dX3_chooseLine_69 : decode cX3_chooseLine 69 = .ok (.iadd, 1) := by decide +kernel
theorem dX3_chooseLine_70 : decode cX3_chooseLine 70 = .ok (.aload_n 0, 1) := by decide +kernel
theorem dX3_chooseLine_71 : decode cX3_chooseLine 71 = .ok (.getfield 24, 3) := by decide +kernel
theorem dX3_chooseLine_74 : decode cX3_chooseLine 74 = .ok (.iload 4, 2) := by decide +kernel
theorem dX3_chooseLine_76 : decode cX3_chooseLine 76 = .ok (.aaload, 1) := by decide +kernel
theorem dX3_chooseLine_77 : decode cX3_chooseLine 77 = .ok (.iload_n 3, 1) := by decide +kernel
theorem dX3_chooseLine_78 : decode cX3_chooseLine 78 = .ok (.iaload, 1) := by decide +kernel
theorem dX3_chooseLine_79 : decode cX3_chooseLine 79 = .ok (.iadd, 1) := by decide +kernel
theorem dX3_chooseLine_80 : decode cX3_chooseLine 80 = .ok (.istore 5, 2) := by decide +kernel
theorem dX3_chooseLine_82 : decode cX3_chooseLine 82 = .ok (.iconst 1, 1) := by decide +kernel
theorem dX3_chooseLine_83 : decode cX3_chooseLine 83 = .ok (.aload_n 0, 1) := by decide +kernel
theorem dX3_chooseLine_84 : decode cX3_chooseLine 84 = .ok (.getfield 27, 3) := by decide +kernel
theorem dX3_chooseLine_87 : decode cX3_chooseLine 87 = .ok (.iload 4, 2) := by decide +kernel
theorem dX3_chooseLine_89 : decode cX3_chooseLine 89 = .ok (.aaload, 1) := by decide +kernel
theorem dX3_chooseLine_90 : decode cX3_chooseLine 90 = .ok (.iload_n 3, 1) := by decide +kernel
theorem dX3_chooseLine_91 : decode cX3_chooseLine 91 = .ok (.iaload, 1) := by decide +kernel
theorem dX3_chooseLine_92 : decode cX3_chooseLine 92 = .ok (.iadd, 1) := by decide +kernel
theorem dX3_chooseLine_93 : decode cX3_chooseLine 93 = .ok (.istore 6, 2) := by decide +kernel
theorem dX3_chooseLine_95 : decode cX3_chooseLine 95 = .ok (.iload 5, 2) := by decide +kernel
theorem dX3_chooseLine_97 : decode cX3_chooseLine 97 = .ok (.aload_n 0, 1) := by decide +kernel
theorem dX3_chooseLine_98 : decode cX3_chooseLine 98 = .ok (.getfield 24, 3) := by decide +kernel
theorem dX3_chooseLine_101 : decode cX3_chooseLine 101 = .ok (.iload_n 1, 1) := by decide +kernel
theorem dX3_chooseLine_102 : decode cX3_chooseLine 102 = .ok (.aaload, 1) := by decide +kernel
theorem dX3_chooseLine_103 : decode cX3_chooseLine 103 = .ok (.iload_n 2, 1) := by decide +kernel
theorem dX3_chooseLine_104 : decode cX3_chooseLine 104 = .ok (.iaload, 1) := by decide +kernel
theorem dX3_chooseLine_105 : decode cX3_chooseLine 105 = .ok (.if_icmp .lt 29, 3) := by decide +kernel
theorem dX3_chooseLine_108 : decode cX3_chooseLine 108 = .ok (.iload 5, 2) := by decide +kernel
theorem dX3_chooseLine_110 : decode cX3_chooseLine 110 = .ok (.aload_n 0, 1) := by decide +kernel
theorem dX3_chooseLine_111 : decode cX3_chooseLine 111 = .ok (.getfield 24, 3) := by decide +kernel
theorem dX3_chooseLine_114 : decode cX3_chooseLine 114 = .ok (.iload_n 1, 1) := by decide +kernel
theorem dX3_chooseLine_115 : decode cX3_chooseLine 115 = .ok (.aaload, 1) := by decide +kernel
theorem dX3_chooseLine_116 : decode cX3_chooseLine 116 = .ok (.iload_n 2, 1) := by decide +kernel
theorem dX3_chooseLine_117 : decode cX3_chooseLine 117 = .ok (.iaload, 1) := by decide +kernel
theorem dX3_chooseLine_118 : decode cX3_chooseLine 118 = .ok (.if_icmp .ne 46, 3) := by decide +kernel
theorem dX3_chooseLine_121 : decode cX3_chooseLine 121 = .ok (.iload 6, 2) := by decide +kernel
theorem dX3_chooseLine_123 : decode cX3_chooseLine 123 = .ok (.aload_n 0, 1) := by decide +kernel
theorem dX3_chooseLine_124 : decode cX3_chooseLine 124 = .ok (.getfield 27, 3) := by decide +kernel
theorem dX3_chooseLine_127 : decode cX3_chooseLine 127 = .ok (.iload_n 1, 1) := by decide +kernel
theorem dX3_chooseLine_128 : decode cX3_chooseLine 128 = .ok (.aaload, 1) := by decide +kernel
theorem dX3_chooseLine_129 : decode cX3_chooseLine 129 = .ok (.iload_n 2, 1) := by decide +kernel
theorem dX3_chooseLine_130 : decode cX3_chooseLine 130 = .ok (.iaload, 1) := by decide +kernel
theorem dX3_chooseLine_131 : decode cX3_chooseLine 131 = .ok (.if_icmp .ge 33, 3) := by decide +kernel
theorem dX3_chooseLine_134 : decode cX3_chooseLine 134 = .ok (.aload_n 0, 1) := by decide +kernel
theorem dX3_chooseLine_135 : decode cX3_chooseLine 135 = .ok (.getfield 24, 3) := by decide +kernel
theorem dX3_chooseLine_138 : decode cX3_chooseLine 138 = .ok (.iload_n 1, 1) := by decide +kernel
theorem dX3_chooseLine_139 : decode cX3_chooseLine 139 = .ok (.aaload, 1) := by decide +kernel
theorem dX3_chooseLine_140 : decode cX3_chooseLine 140 = .ok (.iload_n 2, 1) := by decide +kernel
theorem dX3_chooseLine_141 : decode cX3_chooseLine 141 = .ok (.iload 5, 2) := by decide +kernel
theorem dX3_chooseLine_143 : decode cX3_chooseLine 143 = .ok (.iastore, 1) := by decide +kernel
theorem dX3_chooseLine_144 : decode cX3_chooseLine 144 = .ok (.aload_n 0, 1) := by decide +kernel
theorem dX3_chooseLine_145 : decode cX3_chooseLine 145 = .ok (.getfield 27, 3) := by decide +kernel
theorem dX3_chooseLine_148 : decode cX3_chooseLine 148 = .ok (.iload_n 1, 1) := by decide +kernel
theorem dX3_chooseLine_149 : decode cX3_chooseLine 149 = .ok (.aaload, 1) := by decide +kernel
theorem dX3_chooseLine_150 : decode cX3_chooseLine 150 = .ok (.iload_n 2, 1) := by decide +kernel
theorem dX3_chooseLine_151 : decode cX3_chooseLine 151 = .ok (.iload 6, 2) := by decide +kernel
theorem dX3_chooseLine_153 : decode cX3_chooseLine 153 = .ok (.iastore, 1) := by decide +kernel
theorem dX3_chooseLine_154 : decode cX3_chooseLine 154 = .ok (.aload_n 0, 1) := by decide +kernel
theorem dX3_chooseLine_155 : decode cX3_chooseLine 155 = .ok (.getfield 30, 3) := by decide +kernel
theorem dX3_chooseLine_158 : decode cX3_chooseLine 158 = .ok (.iload_n 1, 1) := by decide +kernel
theorem dX3_chooseLine_159 : decode cX3_chooseLine 159 = .ok (.aaload, 1) := by decide +kernel
theorem dX3_chooseLine_160 : decode cX3_chooseLine 160 = .ok (.iload_n 2, 1) := by decide +kernel
theorem dX3_chooseLine_161 : decode cX3_chooseLine 161 = .ok (.iload 4, 2) := by decide +kernel
theorem dX3_chooseLine_163 : decode cX3_chooseLine 163 = .ok (.iastore, 1) := by decide +kernel
theorem dX3_chooseLine_164 : decode cX3_chooseLine 164 = .ok (.iinc 4 1, 3) := by decide +kernel
theorem dX3_chooseLine_167 : decode cX3_chooseLine 167 = .ok (.goto (-137), 3) := by decide +kernel
theorem dX3_chooseLine_170 : decode cX3_chooseLine 170 = .ok (.return_, 1) := by decide +kernel
theorem dX3_setLines_0 : decode cX3_setLines 0 = .ok (.aload_n 0, 1) := by decide +kernel
theorem dX3_setLines_1 : decode cX3_setLines 1 = .ok (.aload_n 0, 1) := by decide +kernel
theorem dX3_setLines_2 : decode cX3_setLines 2 = .ok (.getfield 27, 3) := by decide +kernel
theorem dX3_setLines_5 : decode cX3_setLines 5 = .ok (.iconst 0, 1) := by decide +kernel
theorem dX3_setLines_6 : decode cX3_setLines 6 = .ok (.aaload, 1) := by decide +kernel
theorem dX3_setLines_7 : decode cX3_setLines 7 = .ok (.iconst 0, 1) := by decide +kernel
theorem dX3_setLines_8 : decode cX3_setLines 8 = .ok (.iaload, 1) := by decide +kernel
theorem dX3_setLines_9 : decode cX3_setLines 9 = .ok (.putfield 100, 3) := by decide +kernel
theorem dX3_setLines_12 : decode cX3_setLines 12 = .ok (.aload_n 0, 1) := by decide +kernel
theorem dX3_setLines_13 : decode cX3_setLines 13 = .ok (.iconst 0, 1) := by decide +kernel
theorem dX3_setLines_14 : decode cX3_setLines 14 = .ok (.putfield 103, 3) := by decide +kernel
theorem dX3_setLines_17 : decode cX3_setLines 17 = .ok (.iconst 0, 1) := by decide +kernel
theorem dX3_setLines_18 : decode cX3_setLines 18 = .ok (.istore_n 1, 1) := by decide +kernel
theorem dX3_setLines_19 : decode cX3_setLines 19 = .ok (.iconst 0, 1) := by decide +kernel
theorem dX3_setLines_20 : decode cX3_setLines 20 = .ok (.istore_n 2, 1) := by decide +kernel
theorem dX3_setLines_21 : decode cX3_setLines 21 = .ok (.iconst 0, 1) := by decide +kernel
theorem dX3_setLines_22 : decode cX3_setLines 22 = .ok (.istore_n 3, 1) := by decide +kernel
theorem dX3_setLines_23 : decode cX3_setLines 23 = .ok (.iload_n 3, 1) := by decide +kernel
theorem dX3_setLines_24 : decode cX3_setLines 24 = .ok (.aload_n 0, 1) := by decide +kernel
theorem dX3_setLines_25 : decode cX3_setLines 25 = .ok (.getfield 100, 3) := by decide +kernel
theorem dX3_setLines_28 : decode cX3_setLines 28 = .ok (.if_icmp .ge 75, 3) := by decide +kernel
theorem dX3_setLines_31 : decode cX3_setLines 31 = .ok (.aload_n 0, 1) := by decide +kernel
theorem dX3_setLines_32 : decode cX3_setLines 32 = .ok (.getfield 33, 3) := by decide +kernel
theorem dX3_setLines_35 : decode cX3_setLines 35 = .ok (.iload_n 3, 1) := by decide +kernel
theorem dX3_setLines_36 : decode cX3_setLines 36 = .ok (.iload_n 1, 1) := by decide +kernel
theorem dX3_setLines_37 : decode cX3_setLines 37 = .ok (.iastore, 1) := by decide +kernel
theorem dX3_setLines_38 : decode cX3_setLines 38 = .ok (.aload_n 0, 1) := by decide +kernel
theorem dX3_setLines_39 : decode cX3_setLines 39 = .ok (.getfield 30, 3) := by decide +kernel
theorem dX3_setLines_42 : decode cX3_setLines 42 = .ok (.iload_n 1, 1) := by decide +kernel
theorem dX3_setLines_43 : decode cX3_setLines 43 = .ok (.aaload, 1) := by decide +kernel
theorem dX3_setLines_44 : decode cX3_setLines 44 = .ok (.iload_n 2, 1) := by decide +kernel
theorem dX3_setLines_45 : decode cX3_setLines 45 = .ok (.iaload, 1) := by decide +kernel
theorem dX3_setLines_46 : decode cX3_setLines 46 = .ok (.istore 4, 2) := by decide +kernel
theorem dX3_setLines_48 : decode cX3_setLines 48 = .ok (.iload_n 1, 1) := by decide +kernel
theorem dX3_setLines_49 : decode cX3_setLines 49 = .ok (.istore 5, 2) := by decide +kernel
theorem dX3_setLines_51 : decode cX3_setLines 51 = .ok (.iload 5, 2) := by decide +kernel
theorem dX3_setLines_53 : decode cX3_setLines 53 = .ok (.iload 4, 2) := by decide +kernel
theorem dX3_setLines_55 : decode cX3_setLines 55 = .ok (.if_icmp .ge 17, 3) := by decide +kernel
theorem dX3_setLines_58 : decode cX3_setLines 58 = .ok (.aload_n 0, 1) := by decide +kernel
theorem dX3_setLines_59 : decode cX3_setLines 59 = .ok (.getfield 36, 3) := by decide +kernel
theorem dX3_setLines_62 : decode cX3_setLines 62 = .ok (.iload 5, 2) := by decide +kernel
theorem dX3_setLines_64 : decode cX3_setLines 64 = .ok (.iload_n 3, 1) := by decide +kernel
theorem dX3_setLines_65 : decode cX3_setLines 65 = .ok (.iastore, 1) := by decide +kernel
theorem dX3_setLines_66 : decode cX3_setLines 66 = .ok (.iinc 5 1, 3) := by decide +kernel
theorem dX3_setLines_69 : decode cX3_setLines 69 = .ok (.goto (-18), 3) := by decide +kernel
theorem dX3_setLines_72 : decode cX3_setLines 72 = .ok (.aload_n 0, 1) := by decide +kernel
theorem dX3_setLines_73 : decode cX3_setLines 73 = .ok (.iload_n 2, 1) := by decide +kernel
theorem dX3_setLines_74 : decode cX3_setLines 74 = .ok (.invokevirtual 85, 3) := by decide +kernel
theorem dX3_setLines_77 : decode cX3_setLines 77 = .ok (.istore_n 2, 1) := by decide +kernel
theorem dX3_setLines_78 : decode cX3_setLines 78 = .ok (.aload_n 0, 1) := by decide +kernel
theorem dX3_setLines_79 : decode cX3_setLines 79 = .ok (.dup, 1) := by decide +kernel
theorem dX3_setLines_80 : decode cX3_setLines 80 = .ok (.getfield 103, 3) := by decide +kernel
theorem dX3_setLines_83 : decode cX3_setLines 83 = .ok (.aload_n 0, 1) := by decide +kernel
theorem dX3_setLines_84 : decode cX3_setLines 84 = .ok (.iload 4, 2) := by decide +kernel
theorem dX3_setLines_86 : decode cX3_setLines 86 = .ok (.iload_n 2, 1) := by decide +kernel
theorem dX3_setLines_87 : decode cX3_setLines 87 = .ok (.invokevirtual 97, 3) := by decide +kernel
theorem dX3_setLines_90 : decode cX3_setLines 90 = .ok (.iadd, 1) := by decide +kernel
theorem dX3_setLines_91 : decode cX3_setLines 91 = .ok (.putfield 103, 3) := by decide +kernel
theorem dX3_setLines_94 : decode cX3_setLines 94 = .ok (.iload 4, 2) := by decide +kernel
theorem dX3_setLines_96 : decode cX3_setLines 96 = .ok (.istore_n 1, 1) := by decide +kernel
theorem dX3_setLines_97 : decode cX3_setLines 97 = .ok (.iinc 3 1, 3) := by decide +kernel
theorem dX3_setLines_100 : decode cX3_setLines 100 = .ok (.goto (-77), 3) := by decide +kernel
theorem dX3_setLines_103 : decode cX3_setLines 103 = .ok (.aload_n 0, 1) := by decide +kernel
theorem dX3_setLines_104 : decode cX3_setLines 104 = .ok (.getfield 33, 3) := by decide +kernel
theorem dX3_setLines_107 : decode cX3_setLines 107 = .ok (.aload_n 0, 1) := by decide +kernel
theorem dX3_setLines_108 : decode cX3_setLines 108 = .ok (.getfield 100, 3) := by decide +kernel
theorem dX3_setLines_111 : decode cX3_setLines 111 = .ok (.iload_n 1, 1) := by decide +kernel
theorem dX3_setLines_112 : decode cX3_setLines 112 = .ok (.iastore, 1) := by decide +kernel
theorem dX3_setLines_113 : decode cX3_setLines 113 = .ok (.return_, 1) := by decide +kernel
theorem dX3_nextOnPage_0 : decode cX3_nextOnPage 0 = .ok (.iload_n 1, 1) := by decide +kernel
theorem dX3_nextOnPage_1 : decode cX3_nextOnPage 1 = .ok (.iconst 1, 1) := by decide +kernel
theorem dX3_nextOnPage_2 : decode cX3_nextOnPage 2 = .ok (.iadd, 1) := by decide +kernel
theorem dX3_nextOnPage_3 : decode cX3_nextOnPage 3 = .ok (.aload_n 0, 1) := by decide +kernel
theorem dX3_nextOnPage_4 : decode cX3_nextOnPage 4 = .ok (.getfield 15, 3) := by decide +kernel
theorem dX3_nextOnPage_7 : decode cX3_nextOnPage 7 = .ok (.if_icmp .ge 9, 3) := by decide +kernel
theorem dX3_nextOnPage_10 : decode cX3_nextOnPage 10 = .ok (.iload_n 1, 1) := by decide +kernel
theorem dX3_nextOnPage_11 : decode cX3_nextOnPage 11 = .ok (.iconst 1, 1) := by decide +kernel
theorem dX3_nextOnPage_12 : decode cX3_nextOnPage 12 = .ok (.iadd, 1) := by decide +kernel
theorem dX3_nextOnPage_13 : decode cX3_nextOnPage 13 = .ok (.goto 4, 3) := by decide +kernel
theorem dX3_nextOnPage_16 : decode cX3_nextOnPage 16 = .ok (.iconst 0, 1) := by decide +kernel
theorem dX3_nextOnPage_17 : decode cX3_nextOnPage 17 = .ok (.ireturn, 1) := by decide +kernel
theorem dX3_mayBeLine_0 : decode cX3_mayBeLine 0 = .ok (.iload_n 2, 1) := by decide +kernel
theorem dX3_mayBeLine_1 : decode cX3_mayBeLine 1 = .ok (.iload_n 1, 1) := by decide +kernel
theorem dX3_mayBeLine_2 : decode cX3_mayBeLine 2 = .ok (.isub, 1) := by decide +kernel
theorem dX3_mayBeLine_3 : decode cX3_mayBeLine 3 = .ok (.iconst 1, 1) := by decide +kernel
theorem dX3_mayBeLine_4 : decode cX3_mayBeLine 4 = .ok (.if_icmp .eq 19, 3) := by decide +kernel
theorem dX3_mayBeLine_7 : decode cX3_mayBeLine 7 = .ok (.aload_n 0, 1) := by decide +kernel
theorem dX3_mayBeLine_8 : decode cX3_mayBeLine 8 = .ok (.getfield 39, 3) := by decide +kernel
theorem dX3_mayBeLine_11 : decode cX3_mayBeLine 11 = .ok (.iload_n 1, 1) := by decide +kernel
theorem dX3_mayBeLine_12 : decode cX3_mayBeLine 12 = .ok (.iload_n 2, 1) := by decide +kernel
theorem dX3_mayBeLine_13 : decode cX3_mayBeLine 13 = .ok (.invokevirtual 106, 3) := by decide +kernel
theorem dX3_mayBeLine_16 : decode cX3_mayBeLine 16 = .ok (.aload_n 0, 1) := by decide +kernel
theorem dX3_mayBeLine_17 : decode cX3_mayBeLine 17 = .ok (.getfield 9, 3) := by decide +kernel
theorem dX3_mayBeLine_20 : decode cX3_mayBeLine 20 = .ok (.if_icmp .gt 7, 3) := by decide +kernel
theorem dX3_mayBeLine_23 : decode cX3_mayBeLine 23 = .ok (.iconst 1, 1) := by decide +kernel
theorem dX3_mayBeLine_24 : decode cX3_mayBeLine 24 = .ok (.goto 4, 3) := by decide +kernel
theorem dX3_mayBeLine_27 : decode cX3_mayBeLine 27 = .ok (.iconst 0, 1) := by decide +kernel
theorem dX3_mayBeLine_28 : decode cX3_mayBeLine 28 = .ok (.ireturn, 1) := by decide +kernel
theorem dX3_badness_0 : decode cX3_badness 0 = .ok (.aload_n 0, 1) := by decide +kernel
theorem dX3_badness_1 : decode cX3_badness 1 = .ok (.getfield 39, 3) := by decide +kernel
theorem dX3_badness_4 : decode cX3_badness 4 = .ok (.iload_n 1, 1) := by decide +kernel
theorem dX3_badness_5 : decode cX3_badness 5 = .ok (.iload_n 2, 1) := by decide +kernel
theorem dX3_badness_6 : decode cX3_badness 6 = .ok (.invokevirtual 109, 3) := by decide +kernel
theorem dX3_badness_9 : decode cX3_badness 9 = .ok (.aload_n 0, 1) := by decide +kernel
theorem dX3_badness_10 : decode cX3_badness 10 = .ok (.getfield 9, 3) := by decide +kernel
theorem dX3_badness_13 : decode cX3_badness 13 = .ok (.isub, 1) := by decide +kernel
theorem dX3_badness_14 : decode cX3_badness 14 = .ok (.istore_n 3, 1) := by decide +kernel
theorem dX3_badness_15 : decode cX3_badness 15 = .ok (.iload_n 3, 1) := by decide +kernel
theorem dX3_badness_16 : decode cX3_badness 16 = .ok (.ifCond .le 11, 3) := by decide +kernel
theorem dX3_badness_19 : decode cX3_badness 19 = .ok (.iconst 2, 1) := by decide +kernel
theorem dX3_badness_20 : decode cX3_badness 20 = .ok (.iload_n 3, 1) := by decide +kernel
theorem dX3_badness_21 : decode cX3_badness 21 = .ok (.imul, 1) := by decide +kernel
theorem dX3_badness_22 : decode cX3_badness 22 = .ok (.iconst 2, 1) := by decide +kernel
theorem dX3_badness_23 : decode cX3_badness 23 = .ok (.imul, 1) := by decide +kernel
theorem dX3_badness_24 : decode cX3_badness 24 = .ok (.iload_n 3, 1) := by decide +kernel
theorem dX3_badness_25 : decode cX3_badness 25 = .ok (.imul, 1) := by decide +kernel
theorem dX3_badness_26 : decode cX3_badness 26 = .ok (.ireturn, 1) := by decide +kernel
theorem dX3_badness_27 : decode cX3_badness 27 = .ok (.iload_n 2, 1) := by decide +kernel
theorem dX3_badness_28 : decode cX3_badness 28 = .ok (.aload_n 0, 1) := by decide +kernel
theorem dX3_badness_29 : decode cX3_badness 29 = .ok (.getfield 39, 3) := by decide +kernel
theorem dX3_badness_32 : decode cX3_badness 32 = .ok (.getfield 46, 3) := by decide +kernel
theorem dX3_badness_35 : decode cX3_badness 35 = .ok (.if_icmp .ne 7, 3) := by decide +kernel
theorem dX3_badness_38 : decode cX3_badness 38 = .ok (.iconst 0, 1) := by decide +kernel
theorem dX3_badness_39 : decode cX3_badness 39 = .ok (.goto 6, 3) := by decide +kernel
theorem dX3_badness_42 : decode cX3_badness 42 = .ok (.iload_n 3, 1) := by decide +kernel
theorem dX3_badness_43 : decode cX3_badness 43 = .ok (.iload_n 3, 1) := by decide +kernel
theorem dX3_badness_44 : decode cX3_badness 44 = .ok (.imul, 1) := by decide +kernel
theorem dX3_badness_45 : decode cX3_badness 45 = .ok (.ireturn, 1) := by decide +kernel
theorem dX3_turnAhead_0 : decode cX3_turnAhead 0 = .ok (.iload_n 2, 1) := by decide +kernel
theorem dX3_turnAhead_1 : decode cX3_turnAhead 1 = .ok (.ifCond .ne 12, 3) := by decide +kernel
theorem dX3_turnAhead_4 : decode cX3_turnAhead 4 = .ok (.aload_n 0, 1) := by decide +kernel
theorem dX3_turnAhead_5 : decode cX3_turnAhead 5 = .ok (.getfield 18, 3) := by decide +kernel
theorem dX3_turnAhead_8 : decode cX3_turnAhead 8 = .ok (.iload_n 1, 1) := by decide +kernel
theorem dX3_turnAhead_9 : decode cX3_turnAhead 9 = .ok (.iaload, 1) := by decide +kernel
theorem dX3_turnAhead_10 : decode cX3_turnAhead 10 = .ok (.goto 4, 3) := by decide +kernel
theorem dX3_turnAhead_13 : decode cX3_turnAhead 13 = .ok (.iconst 0, 1) := by decide +kernel
theorem dX3_turnAhead_14 : decode cX3_turnAhead 14 = .ok (.ireturn, 1) := by decide +kernel
theorem dX3_leastCost_0 : decode cX3_leastCost 0 = .ok (.aload_n 0, 1) := by decide +kernel
theorem dX3_leastCost_1 : decode cX3_leastCost 1 = .ok (.getfield 24, 3) := by decide +kernel
theorem dX3_leastCost_4 : decode cX3_leastCost 4 = .ok (.iconst 0, 1) := by decide +kernel
theorem dX3_leastCost_5 : decode cX3_leastCost 5 = .ok (.aaload, 1) := by decide +kernel
theorem dX3_leastCost_6 : decode cX3_leastCost 6 = .ok (.iconst 0, 1) := by decide +kernel
theorem dX3_leastCost_7 : decode cX3_leastCost 7 = .ok (.iaload, 1) := by decide +kernel
theorem dX3_leastCost_8 : decode cX3_leastCost 8 = .ok (.ireturn, 1) := by decide +kernel
theorem dX3_leastByTrying_0 : decode cX3_leastByTrying 0 = .ok (.aload_n 0, 1) := by decide +kernel
theorem dX3_leastByTrying_1 : decode cX3_leastByTrying 1 = .ok (.invokevirtual 43, 3) := by decide +kernel
theorem dX3_leastByTrying_4 : decode cX3_leastByTrying 4 = .ok (.aload_n 0, 1) := by decide +kernel
theorem dX3_leastByTrying_5 : decode cX3_leastByTrying 5 = .ok (.iconst 0, 1) := by decide +kernel
theorem dX3_leastByTrying_6 : decode cX3_leastByTrying 6 = .ok (.iconst 0, 1) := by decide +kernel
theorem dX3_leastByTrying_7 : decode cX3_leastByTrying 7 = .ok (.iconst 0, 1) := by decide +kernel
theorem dX3_leastByTrying_8 : decode cX3_leastByTrying 8 = .ok (.invokevirtual 112, 3) := by decide +kernel
theorem dX3_leastByTrying_11 : decode cX3_leastByTrying 11 = .ok (.ireturn, 1) := by decide +kernel
theorem dX3_leastOfAllWays_0 : decode cX3_leastOfAllWays 0 = .ok (.iload_n 1, 1) := by decide +kernel
theorem dX3_leastOfAllWays_1 : decode cX3_leastOfAllWays 1 = .ok (.aload_n 0, 1) := by decide +kernel
theorem dX3_leastOfAllWays_2 : decode cX3_leastOfAllWays 2 = .ok (.getfield 39, 3) := by decide +kernel
theorem dX3_leastOfAllWays_5 : decode cX3_leastOfAllWays 5 = .ok (.getfield 46, 3) := by decide +kernel
theorem dX3_leastOfAllWays_8 : decode cX3_leastOfAllWays 8 = .ok (.if_icmp .ge 9, 3) := by decide +kernel
theorem dX3_leastOfAllWays_11 : decode cX3_leastOfAllWays 11 = .ok (.iload_n 3, 1) := by decide +kernel
theorem dX3_leastOfAllWays_12 : decode cX3_leastOfAllWays 12 = .ok (.bipush 12, 2) := by decide +kernel
theorem dX3_leastOfAllWays_14 : decode cX3_leastOfAllWays 14 = .ok (.if_icmp .lt 5, 3) := by decide +kernel
theorem dX3_leastOfAllWays_17 : decode cX3_leastOfAllWays 17 = .ok (.iconst 0, 1) := by decide +kernel
theorem dX3_leastOfAllWays_18 : decode cX3_leastOfAllWays 18 = .ok (.ireturn, 1) := by decide +kernel
theorem dX3_leastOfAllWays_19 : decode cX3_leastOfAllWays 19 = .ok (.aload_n 0, 1) := by decide +kernel
theorem dX3_leastOfAllWays_20 : decode cX3_leastOfAllWays 20 = .ok (.iload_n 2, 1) := by decide +kernel
theorem dX3_leastOfAllWays_21 : decode cX3_leastOfAllWays 21 = .ok (.invokevirtual 85, 3) := by decide +kernel
theorem dX3_leastOfAllWays_24 : decode cX3_leastOfAllWays 24 = .ok (.istore 4, 2) := by decide +kernel
theorem dX3_leastOfAllWays_26 : decode cX3_leastOfAllWays 26 = .ok (.ldc 89, 2) := by decide +kernel
theorem dX3_leastOfAllWays_28 : decode cX3_leastOfAllWays 28 = .ok (.istore 5, 2) := by decide +kernel
theorem dX3_leastOfAllWays_30 : decode cX3_leastOfAllWays 30 = .ok (.iload_n 1, 1) := by decide +kernel
theorem dX3_leastOfAllWays_31 : decode cX3_leastOfAllWays 31 = .ok (.iconst 1, 1) := by decide +kernel
theorem dX3_leastOfAllWays_32 : decode cX3_leastOfAllWays 32 = .ok (.iadd, 1) := by decide +kernel
theorem dX3_leastOfAllWays_33 : decode cX3_leastOfAllWays 33 = .ok (.istore 6, 2) := by decide +kernel
theorem dX3_leastOfAllWays_35 : decode cX3_leastOfAllWays 35 = .ok (.iload 6, 2) := by decide +kernel
theorem dX3_leastOfAllWays_37 : decode cX3_leastOfAllWays 37 = .ok (.aload_n 0, 1) := by decide +kernel
theorem dX3_leastOfAllWays_38 : decode cX3_leastOfAllWays 38 = .ok (.getfield 39, 3) := by decide +kernel
theorem dX3_leastOfAllWays_41 : decode cX3_leastOfAllWays 41 = .ok (.getfield 46, 3) := by decide +kernel
theorem dX3_leastOfAllWays_44 : decode cX3_leastOfAllWays 44 = .ok (.if_icmp .gt 58, 3) := by decide +kernel
theorem dX3_leastOfAllWays_47 : decode cX3_leastOfAllWays 47 = .ok (.aload_n 0, 1) := by decide +kernel
theorem dX3_leastOfAllWays_48 : decode cX3_leastOfAllWays 48 = .ok (.iload_n 1, 1) := by decide +kernel
theorem dX3_leastOfAllWays_49 : decode cX3_leastOfAllWays 49 = .ok (.iload 6, 2) := by decide +kernel
theorem dX3_leastOfAllWays_51 : decode cX3_leastOfAllWays 51 = .ok (.invokevirtual 90, 3) := by decide +kernel
theorem dX3_leastOfAllWays_54 : decode cX3_leastOfAllWays 54 = .ok (.ifCond .eq 42, 3) := by decide +kernel
theorem dX3_leastOfAllWays_57 : decode cX3_leastOfAllWays 57 = .ok (.aload_n 0, 1) := by decide +kernel
theorem dX3_leastOfAllWays_58 : decode cX3_leastOfAllWays 58 = .ok (.iload_n 1, 1) := by decide +kernel
theorem dX3_leastOfAllWays_59 : decode cX3_leastOfAllWays 59 = .ok (.iload 6, 2) := by decide +kernel
theorem dX3_leastOfAllWays_61 : decode cX3_leastOfAllWays 61 = .ok (.invokevirtual 94, 3) := by decide +kernel
theorem dX3_leastOfAllWays_64 : decode cX3_leastOfAllWays 64 = .ok (.aload_n 0, 1) := by decide +kernel
theorem dX3_leastOfAllWays_65 : decode cX3_leastOfAllWays 65 = .ok (.iload 6, 2) := by decide +kernel
theorem dX3_leastOfAllWays_67 : decode cX3_leastOfAllWays 67 = .ok (.iload 4, 2) := by decide +kernel
theorem dX3_leastOfAllWays_69 : decode cX3_leastOfAllWays 69 = .ok (.invokevirtual 97, 3) := by decide +kernel
theorem dX3_leastOfAllWays_72 : decode cX3_leastOfAllWays 72 = .ok (.iadd, 1) := by decide +kernel
theorem dX3_leastOfAllWays_73 : decode cX3_leastOfAllWays 73 = .ok (.istore 7, 2) := by decide +kernel
theorem dX3_leastOfAllWays_75 : decode cX3_leastOfAllWays 75 = .ok (.iload 5, 2) := by decide +kernel
theorem dX3_leastOfAllWays_77 : decode cX3_leastOfAllWays 77 = .ok (.iload 7, 2) := by decide +kernel
theorem dX3_leastOfAllWays_79 : decode cX3_leastOfAllWays 79 = .ok (.aload_n 0, 1) := by decide +kernel
theorem dX3_leastOfAllWays_80 : decode cX3_leastOfAllWays 80 = .ok (.iload 6, 2) := by decide +kernel
theorem dX3_leastOfAllWays_82 : decode cX3_leastOfAllWays 82 = .ok (.iload 4, 2) := by decide +kernel
theorem dX3_leastOfAllWays_84 : decode cX3_leastOfAllWays 84 = .ok (.iload_n 3, 1) := by decide +kernel
theorem dX3_leastOfAllWays_85 : decode cX3_leastOfAllWays 85 = .ok (.iconst 1, 1) := by decide +kernel
theorem dX3_leastOfAllWays_86 : decode cX3_leastOfAllWays 86 = .ok (.iadd, 1) := by decide +kernel
theorem dX3_leastOfAllWays_87 : decode cX3_leastOfAllWays 87 = .ok (.invokevirtual 112, 3) := by decide +kernel
theorem dX3_leastOfAllWays_90 : decode cX3_leastOfAllWays 90 = .ok (.iadd, 1) := by decide +kernel
theorem dX3_leastOfAllWays_91 : decode cX3_leastOfAllWays 91 = .ok (.invokestatic 116, 3) := by decide +kernel
theorem dX3_leastOfAllWays_94 : decode cX3_leastOfAllWays 94 = .ok (.istore 5, 2) := by decide +kernel
theorem dX3_leastOfAllWays_96 : decode cX3_leastOfAllWays 96 = .ok (.iinc 6 1, 3) := by decide +kernel
theorem dX3_leastOfAllWays_99 : decode cX3_leastOfAllWays 99 = .ok (.goto (-64), 3) := by decide +kernel
theorem dX3_leastOfAllWays_102 : decode cX3_leastOfAllWays 102 = .ok (.iload 5, 2) := by decide +kernel
theorem dX3_leastOfAllWays_104 : decode cX3_leastOfAllWays 104 = .ok (.ireturn, 1) := by decide +kernel
theorem dX3_springAt_0 : decode cX3_springAt 0 = .ok (.aload_n 0, 1) := by decide +kernel
theorem dX3_springAt_1 : decode cX3_springAt 1 = .ok (.getfield 36, 3) := by decide +kernel
theorem dX3_springAt_4 : decode cX3_springAt 4 = .ok (.iload_n 1, 1) := by decide +kernel
theorem dX3_springAt_5 : decode cX3_springAt 5 = .ok (.iaload, 1) := by decide +kernel
theorem dX3_springAt_6 : decode cX3_springAt 6 = .ok (.istore_n 3, 1) := by decide +kernel
theorem dX3_springAt_7 : decode cX3_springAt 7 = .ok (.aload_n 0, 1) := by decide +kernel
theorem dX3_springAt_8 : decode cX3_springAt 8 = .ok (.getfield 33, 3) := by decide +kernel
theorem dX3_springAt_11 : decode cX3_springAt 11 = .ok (.iload_n 3, 1) := by decide +kernel
theorem dX3_springAt_12 : decode cX3_springAt 12 = .ok (.iaload, 1) := by decide +kernel
theorem dX3_springAt_13 : decode cX3_springAt 13 = .ok (.istore 4, 2) := by decide +kernel
theorem dX3_springAt_15 : decode cX3_springAt 15 = .ok (.aload_n 0, 1) := by decide +kernel
theorem dX3_springAt_16 : decode cX3_springAt 16 = .ok (.getfield 33, 3) := by decide +kernel
theorem dX3_springAt_19 : decode cX3_springAt 19 = .ok (.iload_n 3, 1) := by decide +kernel
theorem dX3_springAt_20 : decode cX3_springAt 20 = .ok (.iconst 1, 1) := by decide +kernel
theorem dX3_springAt_21 : decode cX3_springAt 21 = .ok (.iadd, 1) := by decide +kernel
theorem dX3_springAt_22 : decode cX3_springAt 22 = .ok (.iaload, 1) := by decide +kernel
theorem dX3_springAt_23 : decode cX3_springAt 23 = .ok (.istore 5, 2) := by decide +kernel
theorem dX3_springAt_25 : decode cX3_springAt 25 = .ok (.aload_n 0, 1) := by decide +kernel
theorem dX3_springAt_26 : decode cX3_springAt 26 = .ok (.getfield 39, 3) := by decide +kernel
theorem dX3_springAt_29 : decode cX3_springAt 29 = .ok (.getfield 119, 3) := by decide +kernel
theorem dX3_springAt_32 : decode cX3_springAt 32 = .ok (.iload_n 1, 1) := by decide +kernel
theorem dX3_springAt_33 : decode cX3_springAt 33 = .ok (.iaload, 1) := by decide +kernel
theorem dX3_springAt_34 : decode cX3_springAt 34 = .ok (.aload_n 0, 1) := by decide +kernel
theorem dX3_springAt_35 : decode cX3_springAt 35 = .ok (.getfield 39, 3) := by decide +kernel
theorem dX3_springAt_38 : decode cX3_springAt 38 = .ok (.getfield 119, 3) := by decide +kernel
theorem dX3_springAt_41 : decode cX3_springAt 41 = .ok (.iload 4, 2) := by decide +kernel
theorem dX3_springAt_43 : decode cX3_springAt 43 = .ok (.iaload, 1) := by decide +kernel
theorem dX3_springAt_44 : decode cX3_springAt 44 = .ok (.isub, 1) := by decide +kernel
theorem dX3_springAt_45 : decode cX3_springAt 45 = .ok (.aload_n 0, 1) := by decide +kernel
theorem dX3_springAt_46 : decode cX3_springAt 46 = .ok (.getfield 39, 3) := by decide +kernel
theorem dX3_springAt_49 : decode cX3_springAt 49 = .ok (.getfield 122, 3) := by decide +kernel
theorem dX3_springAt_52 : decode cX3_springAt 52 = .ok (.getfield 126, 3) := by decide +kernel
theorem dX3_springAt_55 : decode cX3_springAt 55 = .ok (.iload_n 2, 1) := by decide +kernel
theorem dX3_springAt_56 : decode cX3_springAt 56 = .ok (.iaload, 1) := by decide +kernel
theorem dX3_springAt_57 : decode cX3_springAt 57 = .ok (.iadd, 1) := by decide +kernel
theorem dX3_springAt_58 : decode cX3_springAt 58 = .ok (.istore 6, 2) := by decide +kernel
theorem dX3_springAt_60 : decode cX3_springAt 60 = .ok (.aload_n 0, 1) := by decide +kernel
theorem dX3_springAt_61 : decode cX3_springAt 61 = .ok (.getfield 39, 3) := by decide +kernel
theorem dX3_springAt_64 : decode cX3_springAt 64 = .ok (.getfield 131, 3) := by decide +kernel
theorem dX3_springAt_67 : decode cX3_springAt 67 = .ok (.iload_n 1, 1) := by decide +kernel
theorem dX3_springAt_68 : decode cX3_springAt 68 = .ok (.iaload, 1) := by decide +kernel
theorem dX3_springAt_69 : decode cX3_springAt 69 = .ok (.aload_n 0, 1) := by decide +kernel
theorem dX3_springAt_70 : decode cX3_springAt 70 = .ok (.getfield 39, 3) := by decide +kernel
theorem dX3_springAt_73 : decode cX3_springAt 73 = .ok (.getfield 131, 3) := by decide +kernel
theorem dX3_springAt_76 : decode cX3_springAt 76 = .ok (.iload 4, 2) := by decide +kernel
theorem dX3_springAt_78 : decode cX3_springAt 78 = .ok (.iaload, 1) := by decide +kernel
theorem dX3_springAt_79 : decode cX3_springAt 79 = .ok (.isub, 1) := by decide +kernel
theorem dX3_springAt_80 : decode cX3_springAt 80 = .ok (.aload_n 0, 1) := by decide +kernel
theorem dX3_springAt_81 : decode cX3_springAt 81 = .ok (.getfield 39, 3) := by decide +kernel
theorem dX3_springAt_84 : decode cX3_springAt 84 = .ok (.getfield 122, 3) := by decide +kernel
theorem dX3_springAt_87 : decode cX3_springAt 87 = .ok (.getfield 134, 3) := by decide +kernel
theorem dX3_springAt_90 : decode cX3_springAt 90 = .ok (.iload_n 2, 1) := by decide +kernel
theorem dX3_springAt_91 : decode cX3_springAt 91 = .ok (.iaload, 1) := by decide +kernel
theorem dX3_springAt_92 : decode cX3_springAt 92 = .ok (.iadd, 1) := by decide +kernel
theorem dX3_springAt_93 : decode cX3_springAt 93 = .ok (.istore 7, 2) := by decide +kernel
theorem dX3_springAt_95 : decode cX3_springAt 95 = .ok (.bipush 8, 2) := by decide +kernel
theorem dX3_springAt_97 : decode cX3_springAt 97 = .ok (.iload_n 1, 1) := by decide +kernel
theorem dX3_springAt_98 : decode cX3_springAt 98 = .ok (.iload 4, 2) := by decide +kernel
theorem dX3_springAt_100 : decode cX3_springAt 100 = .ok (.isub, 1) := by decide +kernel
theorem dX3_springAt_101 : decode cX3_springAt 101 = .ok (.imul, 1) := by decide +kernel
theorem dX3_springAt_102 : decode cX3_springAt 102 = .ok (.iconst 4, 1) := by decide +kernel
theorem dX3_springAt_103 : decode cX3_springAt 103 = .ok (.iadd, 1) := by decide +kernel
theorem dX3_springAt_104 : decode cX3_springAt 104 = .ok (.iload 6, 2) := by decide +kernel
theorem dX3_springAt_106 : decode cX3_springAt 106 = .ok (.iadd, 1) := by decide +kernel
theorem dX3_springAt_107 : decode cX3_springAt 107 = .ok (.istore 8, 2) := by decide +kernel
theorem dX3_springAt_109 : decode cX3_springAt 109 = .ok (.aload_n 0, 1) := by decide +kernel
theorem dX3_springAt_110 : decode cX3_springAt 110 = .ok (.getfield 39, 3) := by decide +kernel
theorem dX3_springAt_113 : decode cX3_springAt 113 = .ok (.iload 4, 2) := by decide +kernel
theorem dX3_springAt_115 : decode cX3_springAt 115 = .ok (.iload 5, 2) := by decide +kernel
theorem dX3_springAt_117 : decode cX3_springAt 117 = .ok (.invokevirtual 109, 3) := by decide +kernel
theorem dX3_springAt_120 : decode cX3_springAt 120 = .ok (.aload_n 0, 1) := by decide +kernel
theorem dX3_springAt_121 : decode cX3_springAt 121 = .ok (.getfield 9, 3) := by decide +kernel
theorem dX3_springAt_124 : decode cX3_springAt 124 = .ok (.isub, 1) := by decide +kernel
theorem dX3_springAt_125 : decode cX3_springAt 125 = .ok (.istore 9, 2) := by decide +kernel
theorem dX3_springAt_127 : decode cX3_springAt 127 = .ok (.iload 9, 2) := by decide +kernel
theorem dX3_springAt_129 : decode cX3_springAt 129 = .ok (.ifCond .le 22, 3) := by decide +kernel
theorem dX3_springAt_132 : decode cX3_springAt 132 = .ok (.iload 8, 2) := by decide +kernel
theorem dX3_springAt_134 : decode cX3_springAt 134 = .ok (.aload_n 0, 1) := by decide +kernel
theorem dX3_springAt_135 : decode cX3_springAt 135 = .ok (.iload 4, 2) := by decide +kernel
theorem dX3_springAt_137 : decode cX3_springAt 137 = .ok (.iload 5, 2) := by decide +kernel
theorem dX3_springAt_139 : decode cX3_springAt 139 = .ok (.iload 9, 2) := by decide +kernel
theorem dX3_springAt_141 : decode cX3_springAt 141 = .ok (.iload 6, 2) := by decide +kernel
theorem dX3_springAt_143 : decode cX3_springAt 143 = .ok (.iload 7, 2) := by decide +kernel
theorem dX3_springAt_145 : decode cX3_springAt 145 = .ok (.isub, 1) := by decide +kernel
theorem dX3_springAt_146 : decode cX3_springAt 146 = .ok (.invokevirtual 135, 3) := by decide +kernel
theorem dX3_springAt_149 : decode cX3_springAt 149 = .ok (.isub, 1) := by decide +kernel
theorem dX3_springAt_150 : decode cX3_springAt 150 = .ok (.ireturn, 1) := by decide +kernel
theorem dX3_springAt_151 : decode cX3_springAt 151 = .ok (.iload 5, 2) := by decide +kernel
theorem dX3_springAt_153 : decode cX3_springAt 153 = .ok (.aload_n 0, 1) := by decide +kernel
theorem dX3_springAt_154 : decode cX3_springAt 154 = .ok (.getfield 39, 3) := by decide +kernel
theorem dX3_springAt_157 : decode cX3_springAt 157 = .ok (.getfield 46, 3) := by decide +kernel
theorem dX3_springAt_160 : decode cX3_springAt 160 = .ok (.if_icmp .ne 8, 3) := by decide +kernel
theorem dX3_springAt_163 : decode cX3_springAt 163 = .ok (.iload 8, 2) := by decide +kernel
theorem dX3_springAt_165 : decode cX3_springAt 165 = .ok (.goto 19, 3) := by decide +kernel
theorem dX3_springAt_168 : decode cX3_springAt 168 = .ok (.iload 8, 2) := by decide +kernel
theorem dX3_springAt_170 : decode cX3_springAt 170 = .ok (.aload_n 0, 1) := by decide +kernel
theorem dX3_springAt_171 : decode cX3_springAt 171 = .ok (.iload 4, 2) := by decide +kernel
theorem dX3_springAt_173 : decode cX3_springAt 173 = .ok (.iload 5, 2) := by decide +kernel
theorem dX3_springAt_175 : decode cX3_springAt 175 = .ok (.iload 9, 2) := by decide +kernel
theorem dX3_springAt_177 : decode cX3_springAt 177 = .ok (.ineg, 1) := by decide +kernel
theorem dX3_springAt_178 : decode cX3_springAt 178 = .ok (.iload 6, 2) := by decide +kernel
theorem dX3_springAt_180 : decode cX3_springAt 180 = .ok (.invokevirtual 139, 3) := by decide +kernel
theorem dX3_springAt_183 : decode cX3_springAt 183 = .ok (.iadd, 1) := by decide +kernel
theorem dX3_springAt_184 : decode cX3_springAt 184 = .ok (.ireturn, 1) := by decide +kernel
theorem dX3_shrunkAhead_0 : decode cX3_shrunkAhead 0 = .ok (.aload_n 0, 1) := by decide +kernel
theorem dX3_shrunkAhead_1 : decode cX3_shrunkAhead 1 = .ok (.getfield 39, 3) := by decide +kernel
theorem dX3_shrunkAhead_4 : decode cX3_shrunkAhead 4 = .ok (.iload_n 1, 1) := by decide +kernel
theorem dX3_shrunkAhead_5 : decode cX3_shrunkAhead 5 = .ok (.iload_n 2, 1) := by decide +kernel
theorem dX3_shrunkAhead_6 : decode cX3_shrunkAhead 6 = .ok (.invokevirtual 109, 3) := by decide +kernel
theorem dX3_shrunkAhead_9 : decode cX3_shrunkAhead 9 = .ok (.aload_n 0, 1) := by decide +kernel
theorem dX3_shrunkAhead_10 : decode cX3_shrunkAhead 10 = .ok (.getfield 39, 3) := by decide +kernel
theorem dX3_shrunkAhead_13 : decode cX3_shrunkAhead 13 = .ok (.iload_n 1, 1) := by decide +kernel
theorem dX3_shrunkAhead_14 : decode cX3_shrunkAhead 14 = .ok (.iload_n 2, 1) := by decide +kernel
theorem dX3_shrunkAhead_15 : decode cX3_shrunkAhead 15 = .ok (.invokevirtual 106, 3) := by decide +kernel
theorem dX3_shrunkAhead_18 : decode cX3_shrunkAhead 18 = .ok (.isub, 1) := by decide +kernel
theorem dX3_shrunkAhead_19 : decode cX3_shrunkAhead 19 = .ok (.istore 5, 2) := by decide +kernel
theorem dX3_shrunkAhead_21 : decode cX3_shrunkAhead 21 = .ok (.iload 5, 2) := by decide +kernel
theorem dX3_shrunkAhead_23 : decode cX3_shrunkAhead 23 = .ok (.ifCond .le 18, 3) := by decide +kernel
theorem dX3_shrunkAhead_26 : decode cX3_shrunkAhead 26 = .ok (.iload_n 3, 1) := by decide +kernel
theorem dX3_shrunkAhead_27 : decode cX3_shrunkAhead 27 = .ok (.iload 5, 2) := by decide +kernel
theorem dX3_shrunkAhead_29 : decode cX3_shrunkAhead 29 = .ok (.invokestatic 116, 3) := by decide +kernel
theorem dX3_shrunkAhead_32 : decode cX3_shrunkAhead 32 = .ok (.iload 4, 2) := by decide +kernel
theorem dX3_shrunkAhead_34 : decode cX3_shrunkAhead 34 = .ok (.imul, 1) := by decide +kernel
theorem dX3_shrunkAhead_35 : decode cX3_shrunkAhead 35 = .ok (.iload 5, 2) := by decide +kernel
theorem dX3_shrunkAhead_37 : decode cX3_shrunkAhead 37 = .ok (.idiv, 1) := by decide +kernel
theorem dX3_shrunkAhead_38 : decode cX3_shrunkAhead 38 = .ok (.goto 4, 3) := by decide +kernel
theorem dX3_shrunkAhead_41 : decode cX3_shrunkAhead 41 = .ok (.iconst 0, 1) := by decide +kernel
theorem dX3_shrunkAhead_42 : decode cX3_shrunkAhead 42 = .ok (.ireturn, 1) := by decide +kernel
theorem dX3_stretchedAhead_0 : decode cX3_stretchedAhead 0 = .ok (.aload_n 0, 1) := by decide +kernel
theorem dX3_stretchedAhead_1 : decode cX3_stretchedAhead 1 = .ok (.getfield 39, 3) := by decide +kernel
theorem dX3_stretchedAhead_4 : decode cX3_stretchedAhead 4 = .ok (.getfield 119, 3) := by decide +kernel
theorem dX3_stretchedAhead_7 : decode cX3_stretchedAhead 7 = .ok (.iload_n 2, 1) := by decide +kernel
theorem dX3_stretchedAhead_8 : decode cX3_stretchedAhead 8 = .ok (.iaload, 1) := by decide +kernel
theorem dX3_stretchedAhead_9 : decode cX3_stretchedAhead 9 = .ok (.aload_n 0, 1) := by decide +kernel
theorem dX3_stretchedAhead_10 : decode cX3_stretchedAhead 10 = .ok (.getfield 39, 3) := by decide +kernel
theorem dX3_stretchedAhead_13 : decode cX3_stretchedAhead 13 = .ok (.getfield 119, 3) := by decide +kernel
theorem dX3_stretchedAhead_16 : decode cX3_stretchedAhead 16 = .ok (.iload_n 1, 1) := by decide +kernel
theorem dX3_stretchedAhead_17 : decode cX3_stretchedAhead 17 = .ok (.iaload, 1) := by decide +kernel
theorem dX3_stretchedAhead_18 : decode cX3_stretchedAhead 18 = .ok (.isub, 1) := by decide +kernel
theorem dX3_stretchedAhead_19 : decode cX3_stretchedAhead 19 = .ok (.istore 5, 2) := by decide +kernel
theorem dX3_stretchedAhead_21 : decode cX3_stretchedAhead 21 = .ok (.iload 5, 2) := by decide +kernel
theorem dX3_stretchedAhead_23 : decode cX3_stretchedAhead 23 = .ok (.ifCond .le 13, 3) := by decide +kernel
theorem dX3_stretchedAhead_26 : decode cX3_stretchedAhead 26 = .ok (.iload_n 3, 1) := by decide +kernel
theorem dX3_stretchedAhead_27 : decode cX3_stretchedAhead 27 = .ok (.iload 4, 2) := by decide +kernel
theorem dX3_stretchedAhead_29 : decode cX3_stretchedAhead 29 = .ok (.imul, 1) := by decide +kernel
theorem dX3_stretchedAhead_30 : decode cX3_stretchedAhead 30 = .ok (.iload 5, 2) := by decide +kernel
theorem dX3_stretchedAhead_32 : decode cX3_stretchedAhead 32 = .ok (.idiv, 1) := by decide +kernel
theorem dX3_stretchedAhead_33 : decode cX3_stretchedAhead 33 = .ok (.goto 4, 3) := by decide +kernel
theorem dX3_stretchedAhead_36 : decode cX3_stretchedAhead 36 = .ok (.iconst 0, 1) := by decide +kernel
theorem dX3_stretchedAhead_37 : decode cX3_stretchedAhead 37 = .ok (.ireturn, 1) := by decide +kernel
theorem dX4_init_0 : decode cX4_init 0 = .ok (.aload_n 0, 1) := by decide +kernel
theorem dX4_init_1 : decode cX4_init 1 = .ok (.invokespecial 3, 3) := by decide +kernel
theorem dX4_init_4 : decode cX4_init 4 = .ok (.aload_n 0, 1) := by decide +kernel
theorem dX4_init_5 : decode cX4_init 5 = .ok (.bipush 12, 2) := by decide +kernel
theorem dX4_init_7 : decode cX4_init 7 = .ok (.newarray .int, 2) := by decide +kernel
theorem dX4_init_9 : decode cX4_init 9 = .ok (.putfield 9, 3) := by decide +kernel
theorem dX4_init_12 : decode cX4_init 12 = .ok (.aload_n 0, 1) := by decide +kernel
theorem dX4_init_13 : decode cX4_init 13 = .ok (.bipush 13, 2) := by decide +kernel
theorem dX4_init_15 : decode cX4_init 15 = .ok (.newarray .int, 2) := by decide +kernel
theorem dX4_init_17 : decode cX4_init 17 = .ok (.putfield 15, 3) := by decide +kernel
theorem dX4_init_20 : decode cX4_init 20 = .ok (.aload_n 0, 1) := by decide +kernel
theorem dX4_init_21 : decode cX4_init 21 = .ok (.bipush 60, 2) := by decide +kernel
theorem dX4_init_23 : decode cX4_init 23 = .ok (.newarray .int, 2) := by decide +kernel
theorem dX4_init_25 : decode cX4_init 25 = .ok (.putfield 18, 3) := by decide +kernel
theorem dX4_init_28 : decode cX4_init 28 = .ok (.aload_n 0, 1) := by decide +kernel
theorem dX4_init_29 : decode cX4_init 29 = .ok (.bipush 60, 2) := by decide +kernel
theorem dX4_init_31 : decode cX4_init 31 = .ok (.newarray .int, 2) := by decide +kernel
theorem dX4_init_33 : decode cX4_init 33 = .ok (.putfield 21, 3) := by decide +kernel
theorem dX4_init_36 : decode cX4_init 36 = .ok (.aload_n 0, 1) := by decide +kernel
theorem dX4_init_37 : decode cX4_init 37 = .ok (.sipush 480, 3) := by decide +kernel
theorem dX4_init_40 : decode cX4_init 40 = .ok (.newarray .int, 2) := by decide +kernel
theorem dX4_init_42 : decode cX4_init 42 = .ok (.putfield 24, 3) := by decide +kernel
theorem dX4_init_45 : decode cX4_init 45 = .ok (.aload_n 0, 1) := by decide +kernel
theorem dX4_init_46 : decode cX4_init 46 = .ok (.sipush 480, 3) := by decide +kernel
theorem dX4_init_49 : decode cX4_init 49 = .ok (.newarray .int, 2) := by decide +kernel
theorem dX4_init_51 : decode cX4_init 51 = .ok (.putfield 27, 3) := by decide +kernel
theorem dX4_init_54 : decode cX4_init 54 = .ok (.return_, 1) := by decide +kernel
theorem dX4_addBar_0 : decode cX4_addBar 0 = .ok (.aload_n 0, 1) := by decide +kernel
theorem dX4_addBar_1 : decode cX4_addBar 1 = .ok (.getfield 9, 3) := by decide +kernel
theorem dX4_addBar_4 : decode cX4_addBar 4 = .ok (.aload_n 0, 1) := by decide +kernel
theorem dX4_addBar_5 : decode cX4_addBar 5 = .ok (.getfield 30, 3) := by decide +kernel
theorem dX4_addBar_8 : decode cX4_addBar 8 = .ok (.iload_n 1, 1) := by decide +kernel
theorem dX4_addBar_9 : decode cX4_addBar 9 = .ok (.iastore, 1) := by decide +kernel
theorem dX4_addBar_10 : decode cX4_addBar 10 = .ok (.aload_n 0, 1) := by decide +kernel
theorem dX4_addBar_11 : decode cX4_addBar 11 = .ok (.getfield 15, 3) := by decide +kernel
theorem dX4_addBar_14 : decode cX4_addBar 14 = .ok (.aload_n 0, 1) := by decide +kernel
theorem dX4_addBar_15 : decode cX4_addBar 15 = .ok (.getfield 30, 3) := by decide +kernel
theorem dX4_addBar_18 : decode cX4_addBar 18 = .ok (.iconst 1, 1) := by decide +kernel
theorem dX4_addBar_19 : decode cX4_addBar 19 = .ok (.iadd, 1) := by decide +kernel
theorem dX4_addBar_20 : decode cX4_addBar 20 = .ok (.aload_n 0, 1) := by decide +kernel
theorem dX4_addBar_21 : decode cX4_addBar 21 = .ok (.getfield 15, 3) := by decide +kernel
theorem dX4_addBar_24 : decode cX4_addBar 24 = .ok (.aload_n 0, 1) := by decide +kernel
theorem dX4_addBar_25 : decode cX4_addBar 25 = .ok (.getfield 30, 3) := by decide +kernel
theorem dX4_addBar_28 : decode cX4_addBar 28 = .ok (.iaload, 1) := by decide +kernel
theorem dX4_addBar_29 : decode cX4_addBar 29 = .ok (.iload_n 1, 1) := by decide +kernel
theorem dX4_addBar_30 : decode cX4_addBar 30 = .ok (.iadd, 1) := by decide +kernel
theorem dX4_addBar_31 : decode cX4_addBar 31 = .ok (.iastore, 1) := by decide +kernel
theorem dX4_addBar_32 : decode cX4_addBar 32 = .ok (.aload_n 0, 1) := by decide +kernel
theorem dX4_addBar_33 : decode cX4_addBar 33 = .ok (.dup, 1) := by decide +kernel
theorem dX4_addBar_34 : decode cX4_addBar 34 = .ok (.getfield 30, 3) := by decide +kernel
theorem dX4_addBar_37 : decode cX4_addBar 37 = .ok (.iconst 1, 1) := by decide +kernel
theorem dX4_addBar_38 : decode cX4_addBar 38 = .ok (.iadd, 1) := by decide +kernel
theorem dX4_addBar_39 : decode cX4_addBar 39 = .ok (.putfield 30, 3) := by decide +kernel
theorem dX4_addBar_42 : decode cX4_addBar 42 = .ok (.aload_n 0, 1) := by decide +kernel
theorem dX4_addBar_43 : decode cX4_addBar 43 = .ok (.getfield 30, 3) := by decide +kernel
theorem dX4_addBar_46 : decode cX4_addBar 46 = .ok (.iconst 1, 1) := by decide +kernel
theorem dX4_addBar_47 : decode cX4_addBar 47 = .ok (.isub, 1) := by decide +kernel
theorem dX4_addBar_48 : decode cX4_addBar 48 = .ok (.ireturn, 1) := by decide +kernel
theorem dX4_addNote_0 : decode cX4_addNote 0 = .ok (.iload_n 1, 1) := by decide +kernel
theorem dX4_addNote_1 : decode cX4_addNote 1 = .ok (.bipush 8, 2) := by decide +kernel
theorem dX4_addNote_3 : decode cX4_addNote 3 = .ok (.imul, 1) := by decide +kernel
theorem dX4_addNote_4 : decode cX4_addNote 4 = .ok (.aload_n 0, 1) := by decide +kernel
theorem dX4_addNote_5 : decode cX4_addNote 5 = .ok (.getfield 21, 3) := by decide +kernel
theorem dX4_addNote_8 : decode cX4_addNote 8 = .ok (.iload_n 1, 1) := by decide +kernel
theorem dX4_addNote_9 : decode cX4_addNote 9 = .ok (.iaload, 1) := by decide +kernel
theorem dX4_addNote_10 : decode cX4_addNote 10 = .ok (.iadd, 1) := by decide +kernel
theorem dX4_addNote_11 : decode cX4_addNote 11 = .ok (.istore 4, 2) := by decide +kernel
theorem dX4_addNote_13 : decode cX4_addNote 13 = .ok (.aload_n 0, 1) := by decide +kernel
theorem dX4_addNote_14 : decode cX4_addNote 14 = .ok (.getfield 24, 3) := by decide +kernel
theorem dX4_addNote_17 : decode cX4_addNote 17 = .ok (.iload 4, 2) := by decide +kernel
theorem dX4_addNote_19 : decode cX4_addNote 19 = .ok (.iload_n 2, 1) := by decide +kernel
theorem dX4_addNote_20 : decode cX4_addNote 20 = .ok (.iastore, 1) := by decide +kernel
theorem dX4_addNote_21 : decode cX4_addNote 21 = .ok (.aload_n 0, 1) := by decide +kernel
theorem dX4_addNote_22 : decode cX4_addNote 22 = .ok (.getfield 27, 3) := by decide +kernel
theorem dX4_addNote_25 : decode cX4_addNote 25 = .ok (.iload 4, 2) := by decide +kernel
theorem dX4_addNote_27 : decode cX4_addNote 27 = .ok (.iload_n 3, 1) := by decide +kernel
theorem dX4_addNote_28 : decode cX4_addNote 28 = .ok (.iastore, 1) := by decide +kernel
theorem dX4_addNote_29 : decode cX4_addNote 29 = .ok (.aload_n 0, 1) := by decide +kernel
theorem dX4_addNote_30 : decode cX4_addNote 30 = .ok (.getfield 21, 3) := by decide +kernel
theorem dX4_addNote_33 : decode cX4_addNote 33 = .ok (.iload_n 1, 1) := by decide +kernel
theorem dX4_addNote_34 : decode cX4_addNote 34 = .ok (.dup2, 1) := by decide +kernel
theorem dX4_addNote_35 : decode cX4_addNote 35 = .ok (.iaload, 1) := by decide +kernel
theorem dX4_addNote_36 : decode cX4_addNote 36 = .ok (.iconst 1, 1) := by decide +kernel
theorem dX4_addNote_37 : decode cX4_addNote 37 = .ok (.iadd, 1) := by decide +kernel
theorem dX4_addNote_38 : decode cX4_addNote 38 = .ok (.iastore, 1) := by decide +kernel
theorem dX4_addNote_39 : decode cX4_addNote 39 = .ok (.aload_n 0, 1) := by decide +kernel
theorem dX4_addNote_40 : decode cX4_addNote 40 = .ok (.getfield 18, 3) := by decide +kernel
theorem dX4_addNote_43 : decode cX4_addNote 43 = .ok (.iload_n 1, 1) := by decide +kernel
theorem dX4_addNote_44 : decode cX4_addNote 44 = .ok (.dup2, 1) := by decide +kernel
theorem dX4_addNote_45 : decode cX4_addNote 45 = .ok (.iaload, 1) := by decide +kernel
theorem dX4_addNote_46 : decode cX4_addNote 46 = .ok (.iconst 1, 1) := by decide +kernel
theorem dX4_addNote_47 : decode cX4_addNote 47 = .ok (.iadd, 1) := by decide +kernel
theorem dX4_addNote_48 : decode cX4_addNote 48 = .ok (.iastore, 1) := by decide +kernel
theorem dX4_addNote_49 : decode cX4_addNote 49 = .ok (.aload_n 0, 1) := by decide +kernel
theorem dX4_addNote_50 : decode cX4_addNote 50 = .ok (.getfield 21, 3) := by decide +kernel
theorem dX4_addNote_53 : decode cX4_addNote 53 = .ok (.iload_n 1, 1) := by decide +kernel
theorem dX4_addNote_54 : decode cX4_addNote 54 = .ok (.iaload, 1) := by decide +kernel
theorem dX4_addNote_55 : decode cX4_addNote 55 = .ok (.ireturn, 1) := by decide +kernel
theorem dX4_changePitch_0 : decode cX4_changePitch 0 = .ok (.iload_n 1, 1) := by decide +kernel
theorem dX4_changePitch_1 : decode cX4_changePitch 1 = .ok (.bipush 8, 2) := by decide +kernel
theorem dX4_changePitch_3 : decode cX4_changePitch 3 = .ok (.imul, 1) := by decide +kernel
theorem dX4_changePitch_4 : decode cX4_changePitch 4 = .ok (.iload_n 2, 1) := by decide +kernel
theorem dX4_changePitch_5 : decode cX4_changePitch 5 = .ok (.iadd, 1) := by decide +kernel
theorem dX4_changePitch_6 : decode cX4_changePitch 6 = .ok (.istore 4, 2) := by decide +kernel
theorem dX4_changePitch_8 : decode cX4_changePitch 8 = .ok (.aload_n 0, 1) := by decide +kernel
theorem dX4_changePitch_9 : decode cX4_changePitch 9 = .ok (.getfield 27, 3) := by decide +kernel
theorem dX4_changePitch_12 : decode cX4_changePitch 12 = .ok (.iload 4, 2) := by decide +kernel
theorem dX4_changePitch_14 : decode cX4_changePitch 14 = .ok (.iaload, 1) := by decide +kernel
theorem dX4_changePitch_15 : decode cX4_changePitch 15 = .ok (.istore 5, 2) := by decide +kernel
theorem dX4_changePitch_17 : decode cX4_changePitch 17 = .ok (.iload 5, 2) := by decide +kernel
theorem dX4_changePitch_19 : decode cX4_changePitch 19 = .ok (.iload_n 3, 1) := by decide +kernel
theorem dX4_changePitch_20 : decode cX4_changePitch 20 = .ok (.if_icmp .eq 21, 3) := by decide +kernel
theorem dX4_changePitch_23 : decode cX4_changePitch 23 = .ok (.aload_n 0, 1) := by decide +kernel
theorem dX4_changePitch_24 : decode cX4_changePitch 24 = .ok (.getfield 27, 3) := by decide +kernel
theorem dX4_changePitch_27 : decode cX4_changePitch 27 = .ok (.iload 4, 2) := by decide +kernel
theorem dX4_changePitch_29 : decode cX4_changePitch 29 = .ok (.iload_n 3, 1) := by decide +kernel
theorem dX4_changePitch_30 : decode cX4_changePitch 30 = .ok (.iastore, 1) := by decide +kernel
theorem dX4_changePitch_31 : decode cX4_changePitch 31 = .ok (.aload_n 0, 1) := by decide +kernel
theorem dX4_changePitch_32 : decode cX4_changePitch 32 = .ok (.getfield 18, 3) := by decide +kernel
theorem dX4_changePitch_35 : decode cX4_changePitch 35 = .ok (.iload_n 1, 1) := by decide +kernel
theorem dX4_changePitch_36 : decode cX4_changePitch 36 = .ok (.dup2, 1) := by decide +kernel
theorem dX4_changePitch_37 : decode cX4_changePitch 37 = .ok (.iaload, 1) := by decide +kernel
theorem dX4_changePitch_38 : decode cX4_changePitch 38 = .ok (.iconst 1, 1) := by decide +kernel
theorem dX4_changePitch_39 : decode cX4_changePitch 39 = .ok (.iadd, 1) := by decide +kernel
theorem dX4_changePitch_40 : decode cX4_changePitch 40 = .ok (.iastore, 1) := by decide +kernel
theorem dX4_changePitch_41 : decode cX4_changePitch 41 = .ok (.iload 5, 2) := by decide +kernel
theorem dX4_changePitch_43 : decode cX4_changePitch 43 = .ok (.ireturn, 1) := by decide +kernel
theorem dX4_takeNotes_0 : decode cX4_takeNotes 0 = .ok (.aload_n 0, 1) := by decide +kernel
theorem dX4_takeNotes_1 : decode cX4_takeNotes 1 = .ok (.getfield 21, 3) := by decide +kernel
theorem dX4_takeNotes_4 : decode cX4_takeNotes 4 = .ok (.iload_n 1, 1) := by decide +kernel
theorem dX4_takeNotes_5 : decode cX4_takeNotes 5 = .ok (.iaload, 1) := by decide +kernel
theorem dX4_takeNotes_6 : decode cX4_takeNotes 6 = .ok (.istore_n 2, 1) := by decide +kernel
theorem dX4_takeNotes_7 : decode cX4_takeNotes 7 = .ok (.iload_n 2, 1) := by decide +kernel
theorem dX4_takeNotes_8 : decode cX4_takeNotes 8 = .ok (.ifCond .le 20, 3) := by decide +kernel
theorem dX4_takeNotes_11 : decode cX4_takeNotes 11 = .ok (.aload_n 0, 1) := by decide +kernel
theorem dX4_takeNotes_12 : decode cX4_takeNotes 12 = .ok (.getfield 21, 3) := by decide +kernel
theorem dX4_takeNotes_15 : decode cX4_takeNotes 15 = .ok (.iload_n 1, 1) := by decide +kernel
theorem dX4_takeNotes_16 : decode cX4_takeNotes 16 = .ok (.iconst 0, 1) := by decide +kernel
theorem dX4_takeNotes_17 : decode cX4_takeNotes 17 = .ok (.iastore, 1) := by decide +kernel
theorem dX4_takeNotes_18 : decode cX4_takeNotes 18 = .ok (.aload_n 0, 1) := by decide +kernel
theorem dX4_takeNotes_19 : decode cX4_takeNotes 19 = .ok (.getfield 18, 3) := by decide +kernel
theorem dX4_takeNotes_22 : decode cX4_takeNotes 22 = .ok (.iload_n 1, 1) := by decide +kernel
theorem dX4_takeNotes_23 : decode cX4_takeNotes 23 = .ok (.dup2, 1) := by decide +kernel
theorem dX4_takeNotes_24 : decode cX4_takeNotes 24 = .ok (.iaload, 1) := by decide +kernel
theorem dX4_takeNotes_25 : decode cX4_takeNotes 25 = .ok (.iconst 1, 1) := by decide +kernel
theorem dX4_takeNotes_26 : decode cX4_takeNotes 26 = .ok (.iadd, 1) := by decide +kernel
theorem dX4_takeNotes_27 : decode cX4_takeNotes 27 = .ok (.iastore, 1) := by decide +kernel
theorem dX4_takeNotes_28 : decode cX4_takeNotes 28 = .ok (.iload_n 2, 1) := by decide +kernel
theorem dX4_takeNotes_29 : decode cX4_takeNotes 29 = .ok (.ireturn, 1) := by decide +kernel
theorem dX4_lengthAt_0 : decode cX4_lengthAt 0 = .ok (.aload_n 0, 1) := by decide +kernel
theorem dX4_lengthAt_1 : decode cX4_lengthAt 1 = .ok (.getfield 24, 3) := by decide +kernel
theorem dX4_lengthAt_4 : decode cX4_lengthAt 4 = .ok (.iload_n 1, 1) := by decide +kernel
theorem dX4_lengthAt_5 : decode cX4_lengthAt 5 = .ok (.bipush 8, 2) := by decide +kernel
theorem dX4_lengthAt_7 : decode cX4_lengthAt 7 = .ok (.imul, 1) := by decide +kernel
theorem dX4_lengthAt_8 : decode cX4_lengthAt 8 = .ok (.iload_n 2, 1) := by decide +kernel
theorem dX4_lengthAt_9 : decode cX4_lengthAt 9 = .ok (.iadd, 1) := by decide +kernel
theorem dX4_lengthAt_10 : decode cX4_lengthAt 10 = .ok (.iaload, 1) := by decide +kernel
theorem dX4_lengthAt_11 : decode cX4_lengthAt 11 = .ok (.ireturn, 1) := by decide +kernel
theorem dX4_pitchAt_0 : decode cX4_pitchAt 0 = .ok (.aload_n 0, 1) := by decide +kernel
theorem dX4_pitchAt_1 : decode cX4_pitchAt 1 = .ok (.getfield 27, 3) := by decide +kernel
theorem dX4_pitchAt_4 : decode cX4_pitchAt 4 = .ok (.iload_n 1, 1) := by decide +kernel
theorem dX4_pitchAt_5 : decode cX4_pitchAt 5 = .ok (.bipush 8, 2) := by decide +kernel
theorem dX4_pitchAt_7 : decode cX4_pitchAt 7 = .ok (.imul, 1) := by decide +kernel
theorem dX4_pitchAt_8 : decode cX4_pitchAt 8 = .ok (.iload_n 2, 1) := by decide +kernel
theorem dX4_pitchAt_9 : decode cX4_pitchAt 9 = .ok (.iadd, 1) := by decide +kernel
theorem dX4_pitchAt_10 : decode cX4_pitchAt 10 = .ok (.iaload, 1) := by decide +kernel
theorem dX4_pitchAt_11 : decode cX4_pitchAt 11 = .ok (.ireturn, 1) := by decide +kernel
theorem dX4_filled_0 : decode cX4_filled 0 = .ok (.iconst 0, 1) := by decide +kernel
theorem dX4_filled_1 : decode cX4_filled 1 = .ok (.istore_n 2, 1) := by decide +kernel
theorem dX4_filled_2 : decode cX4_filled 2 = .ok (.iconst 0, 1) := by decide +kernel
theorem dX4_filled_3 : decode cX4_filled 3 = .ok (.istore_n 3, 1) := by decide +kernel
theorem dX4_filled_4 : decode cX4_filled 4 = .ok (.iload_n 3, 1) := by decide +kernel
theorem dX4_filled_5 : decode cX4_filled 5 = .ok (.aload_n 0, 1) := by decide +kernel
theorem dX4_filled_6 : decode cX4_filled 6 = .ok (.getfield 21, 3) := by decide +kernel
theorem dX4_filled_9 : decode cX4_filled 9 = .ok (.iload_n 1, 1) := by decide +kernel
theorem dX4_filled_10 : decode cX4_filled 10 = .ok (.iaload, 1) := by decide +kernel
theorem dX4_filled_11 : decode cX4_filled 11 = .ok (.if_icmp .ge 18, 3) := by decide +kernel
theorem dX4_filled_14 : decode cX4_filled 14 = .ok (.iload_n 2, 1) := by decide +kernel
theorem dX4_filled_15 : decode cX4_filled 15 = .ok (.aload_n 0, 1) := by decide +kernel
theorem dX4_filled_16 : decode cX4_filled 16 = .ok (.iload_n 1, 1) := by decide +kernel
theorem dX4_filled_17 : decode cX4_filled 17 = .ok (.iload_n 3, 1) := by decide +kernel
theorem dX4_filled_18 : decode cX4_filled 18 = .ok (.invokevirtual 34, 3) := by decide +kernel
theorem dX4_filled_21 : decode cX4_filled 21 = .ok (.iadd, 1) := by decide +kernel
theorem dX4_filled_22 : decode cX4_filled 22 = .ok (.istore_n 2, 1) := by decide +kernel
theorem dX4_filled_23 : decode cX4_filled 23 = .ok (.iinc 3 1, 3) := by decide +kernel
theorem dX4_filled_26 : decode cX4_filled 26 = .ok (.goto (-22), 3) := by decide +kernel
theorem dX4_filled_29 : decode cX4_filled 29 = .ok (.iload_n 2, 1) := by decide +kernel
theorem dX4_filled_30 : decode cX4_filled 30 = .ok (.ireturn, 1) := by decide +kernel
theorem dX4_countTime_0 : decode cX4_countTime 0 = .ok (.iconst 0, 1) := by decide +kernel
theorem dX4_countTime_1 : decode cX4_countTime 1 = .ok (.istore_n 2, 1) := by decide +kernel
theorem dX4_countTime_2 : decode cX4_countTime 2 = .ok (.iconst 0, 1) := by decide +kernel
theorem dX4_countTime_3 : decode cX4_countTime 3 = .ok (.istore_n 3, 1) := by decide +kernel
theorem dX4_countTime_4 : decode cX4_countTime 4 = .ok (.iload_n 3, 1) := by decide +kernel
theorem dX4_countTime_5 : decode cX4_countTime 5 = .ok (.iload_n 1, 1) := by decide +kernel
theorem dX4_countTime_6 : decode cX4_countTime 6 = .ok (.if_icmp .ge 18, 3) := by decide +kernel
theorem dX4_countTime_9 : decode cX4_countTime 9 = .ok (.iload_n 2, 1) := by decide +kernel
theorem dX4_countTime_10 : decode cX4_countTime 10 = .ok (.aload_n 0, 1) := by decide +kernel
theorem dX4_countTime_11 : decode cX4_countTime 11 = .ok (.getfield 9, 3) := by decide +kernel
theorem dX4_countTime_14 : decode cX4_countTime 14 = .ok (.iload_n 3, 1) := by decide +kernel
theorem dX4_countTime_15 : decode cX4_countTime 15 = .ok (.iaload, 1) := by decide +kernel
theorem dX4_countTime_16 : decode cX4_countTime 16 = .ok (.iadd, 1) := by decide +kernel
theorem dX4_countTime_17 : decode cX4_countTime 17 = .ok (.istore_n 2, 1) := by decide +kernel
theorem dX4_countTime_18 : decode cX4_countTime 18 = .ok (.iinc 3 1, 3) := by decide +kernel
theorem dX4_countTime_21 : decode cX4_countTime 21 = .ok (.goto (-17), 3) := by decide +kernel
theorem dX4_countTime_24 : decode cX4_countTime 24 = .ok (.iload_n 2, 1) := by decide +kernel
theorem dX4_countTime_25 : decode cX4_countTime 25 = .ok (.ireturn, 1) := by decide +kernel
theorem dX4_isSilent_0 : decode cX4_isSilent 0 = .ok (.iload_n 1, 1) := by decide +kernel
theorem dX4_isSilent_1 : decode cX4_isSilent 1 = .ok (.iload_n 2, 1) := by decide +kernel
theorem dX4_isSilent_2 : decode cX4_isSilent 2 = .ok (.invokestatic 38, 3) := by decide +kernel
theorem dX4_isSilent_5 : decode cX4_isSilent 5 = .ok (.istore_n 3, 1) := by decide +kernel
theorem dX4_isSilent_6 : decode cX4_isSilent 6 = .ok (.iconst 0, 1) := by decide +kernel
theorem dX4_isSilent_7 : decode cX4_isSilent 7 = .ok (.istore 4, 2) := by decide +kernel
theorem dX4_isSilent_9 : decode cX4_isSilent 9 = .ok (.iload 4, 2) := by decide +kernel
theorem dX4_isSilent_11 : decode cX4_isSilent 11 = .ok (.aload_n 0, 1) := by decide +kernel
theorem dX4_isSilent_12 : decode cX4_isSilent 12 = .ok (.getfield 21, 3) := by decide +kernel
theorem dX4_isSilent_15 : decode cX4_isSilent 15 = .ok (.iload_n 3, 1) := by decide +kernel
theorem dX4_isSilent_16 : decode cX4_isSilent 16 = .ok (.iaload, 1) := by decide +kernel
theorem dX4_isSilent_17 : decode cX4_isSilent 17 = .ok (.if_icmp .ge 21, 3) := by decide +kernel
theorem dX4_isSilent_20 : decode cX4_isSilent 20 = .ok (.aload_n 0, 1) := by decide +kernel
theorem dX4_isSilent_21 : decode cX4_isSilent 21 = .ok (.iload_n 3, 1) := by decide +kernel
theorem dX4_isSilent_22 : decode cX4_isSilent 22 = .ok (.iload 4, 2) := by decide +kernel
theorem dX4_isSilent_24 : decode cX4_isSilent 24 = .ok (.invokevirtual 41, 3) := by decide +kernel
theorem dX4_isSilent_27 : decode cX4_isSilent 27 = .ok (.ifCond .le 5, 3) := by decide +kernel
theorem dX4_isSilent_30 : decode cX4_isSilent 30 = .ok (.iconst 0, 1) := by decide +kernel
theorem dX4_isSilent_31 : decode cX4_isSilent 31 = .ok (.ireturn, 1) := by decide +kernel
theorem dX4_isSilent_32 : decode cX4_isSilent 32 = .ok (.iinc 4 1, 3) := by decide +kernel
theorem dX4_isSilent_35 : decode cX4_isSilent 35 = .ok (.goto (-26), 3) := by decide +kernel
theorem dX4_isSilent_38 : decode cX4_isSilent 38 = .ok (.iconst 1, 1) := by decide +kernel
theorem dX4_isSilent_39 : decode cX4_isSilent 39 = .ok (.ireturn, 1) := by decide +kernel
theorem dX4_cuePlayer_0 : decode cX4_cuePlayer 0 = .ok (.iload_n 2, 1) := by decide +kernel
theorem dX4_cuePlayer_1 : decode cX4_cuePlayer 1 = .ok (.iconst 2, 1) := by decide +kernel
theorem dX4_cuePlayer_2 : decode cX4_cuePlayer 2 = .ok (.if_icmp .lt 59, 3) := by decide +kernel
theorem dX4_cuePlayer_5 : decode cX4_cuePlayer 5 = .ok (.iload_n 2, 1) := by decide +kernel
theorem dX4_cuePlayer_6 : decode cX4_cuePlayer 6 = .ok (.iconst 1, 1) := by decide +kernel
theorem dX4_cuePlayer_7 : decode cX4_cuePlayer 7 = .ok (.iadd, 1) := by decide +kernel
theorem dX4_cuePlayer_8 : decode cX4_cuePlayer 8 = .ok (.aload_n 0, 1) := by decide +kernel
theorem dX4_cuePlayer_9 : decode cX4_cuePlayer 9 = .ok (.getfield 30, 3) := by decide +kernel
theorem dX4_cuePlayer_12 : decode cX4_cuePlayer 12 = .ok (.if_icmp .ge 49, 3) := by decide +kernel
theorem dX4_cuePlayer_15 : decode cX4_cuePlayer 15 = .ok (.aload_n 0, 1) := by decide +kernel
theorem dX4_cuePlayer_16 : decode cX4_cuePlayer 16 = .ok (.iload_n 1, 1) := by decide +kernel
theorem dX4_cuePlayer_17 : decode cX4_cuePlayer 17 = .ok (.iload_n 2, 1) := by decide +kernel
theorem dX4_cuePlayer_18 : decode cX4_cuePlayer 18 = .ok (.iconst 2, 1) := by decide +kernel
theorem dX4_cuePlayer_19 : decode cX4_cuePlayer 19 = .ok (.isub, 1) := by decide +kernel
theorem dX4_cuePlayer_20 : decode cX4_cuePlayer 20 = .ok (.invokevirtual 44, 3) := by decide +kernel
theorem dX4_cuePlayer_23 : decode cX4_cuePlayer 23 = .ok (.ifCond .eq 38, 3) := by decide +kernel
theorem dX4_cuePlayer_26 : decode cX4_cuePlayer 26 = .ok (.aload_n 0, 1) := by decide +kernel
theorem dX4_cuePlayer_27 : decode cX4_cuePlayer 27 = .ok (.iload_n 1, 1) := by decide +kernel
theorem dX4_cuePlayer_28 : decode cX4_cuePlayer 28 = .ok (.iload_n 2, 1) := by decide +kernel
theorem dX4_cuePlayer_29 : decode cX4_cuePlayer 29 = .ok (.iconst 1, 1) := by decide +kernel
theorem dX4_cuePlayer_30 : decode cX4_cuePlayer 30 = .ok (.isub, 1) := by decide +kernel
theorem dX4_cuePlayer_31 : decode cX4_cuePlayer 31 = .ok (.invokevirtual 44, 3) := by decide +kernel
theorem dX4_cuePlayer_34 : decode cX4_cuePlayer 34 = .ok (.ifCond .eq 27, 3) := by decide +kernel
theorem dX4_cuePlayer_37 : decode cX4_cuePlayer 37 = .ok (.aload_n 0, 1) := by decide +kernel
theorem dX4_cuePlayer_38 : decode cX4_cuePlayer 38 = .ok (.iload_n 1, 1) := by decide +kernel
theorem dX4_cuePlayer_39 : decode cX4_cuePlayer 39 = .ok (.iload_n 2, 1) := by decide +kernel
theorem dX4_cuePlayer_40 : decode cX4_cuePlayer 40 = .ok (.invokevirtual 44, 3) := by decide +kernel
theorem dX4_cuePlayer_43 : decode cX4_cuePlayer 43 = .ok (.ifCond .eq 18, 3) := by decide +kernel
theorem dX4_cuePlayer_46 : decode cX4_cuePlayer 46 = .ok (.aload_n 0, 1) := by decide +kernel
theorem dX4_cuePlayer_47 : decode cX4_cuePlayer 47 = .ok (.iload_n 1, 1) := by decide +kernel
theorem dX4_cuePlayer_48 : decode cX4_cuePlayer 48 = .ok (.iload_n 2, 1) := by decide +kernel
theorem dX4_cuePlayer_49 : decode cX4_cuePlayer 49 = .ok (.iconst 1, 1) := by decide +kernel
theorem dX4_cuePlayer_50 : decode cX4_cuePlayer 50 = .ok (.iadd, 1) := by decide +kernel
theorem dX4_cuePlayer_51 : decode cX4_cuePlayer 51 = .ok (.invokevirtual 44, 3) := by decide +kernel
theorem dX4_cuePlayer_54 : decode cX4_cuePlayer 54 = .ok (.ifCond .ne 7, 3) := by decide +kernel
theorem dX4_cuePlayer_57 : decode cX4_cuePlayer 57 = .ok (.iconst 1, 1) := by decide +kernel
theorem dX4_cuePlayer_58 : decode cX4_cuePlayer 58 = .ok (.goto 4, 3) := by decide +kernel
theorem dX4_cuePlayer_61 : decode cX4_cuePlayer 61 = .ok (.iconst 0, 1) := by decide +kernel
theorem dX4_cuePlayer_62 : decode cX4_cuePlayer 62 = .ok (.istore_n 3, 1) := by decide +kernel
theorem dX4_cuePlayer_63 : decode cX4_cuePlayer 63 = .ok (.iload_n 3, 1) := by decide +kernel
theorem dX4_cuePlayer_64 : decode cX4_cuePlayer 64 = .ok (.ifCond .ne 5, 3) := by decide +kernel
theorem dX4_cuePlayer_67 : decode cX4_cuePlayer 67 = .ok (.iconst (-1), 1) := by decide +kernel
theorem dX4_cuePlayer_68 : decode cX4_cuePlayer 68 = .ok (.ireturn, 1) := by decide +kernel
theorem dX4_cuePlayer_69 : decode cX4_cuePlayer 69 = .ok (.iconst (-1), 1) := by decide +kernel
theorem dX4_cuePlayer_70 : decode cX4_cuePlayer 70 = .ok (.istore 4, 2) := by decide +kernel
theorem dX4_cuePlayer_72 : decode cX4_cuePlayer 72 = .ok (.iconst 0, 1) := by decide +kernel
theorem dX4_cuePlayer_73 : decode cX4_cuePlayer 73 = .ok (.istore 5, 2) := by decide +kernel
theorem dX4_cuePlayer_75 : decode cX4_cuePlayer 75 = .ok (.iconst 0, 1) := by decide +kernel
theorem dX4_cuePlayer_76 : decode cX4_cuePlayer 76 = .ok (.istore 6, 2) := by decide +kernel
theorem dX4_cuePlayer_78 : decode cX4_cuePlayer 78 = .ok (.iload 6, 2) := by decide +kernel
theorem dX4_cuePlayer_80 : decode cX4_cuePlayer 80 = .ok (.iconst 5, 1) := by decide +kernel
theorem dX4_cuePlayer_81 : decode cX4_cuePlayer 81 = .ok (.if_icmp .ge 53, 3) := by decide +kernel
theorem dX4_cuePlayer_84 : decode cX4_cuePlayer 84 = .ok (.aload_n 0, 1) := by decide +kernel
theorem dX4_cuePlayer_85 : decode cX4_cuePlayer 85 = .ok (.getfield 21, 3) := by decide +kernel
theorem dX4_cuePlayer_88 : decode cX4_cuePlayer 88 = .ok (.iload 6, 2) := by decide +kernel
theorem dX4_cuePlayer_90 : decode cX4_cuePlayer 90 = .ok (.iload_n 2, 1) := by decide +kernel
theorem dX4_cuePlayer_91 : decode cX4_cuePlayer 91 = .ok (.invokestatic 38, 3) := by decide +kernel
theorem dX4_cuePlayer_94 : decode cX4_cuePlayer 94 = .ok (.iaload, 1) := by decide +kernel
theorem dX4_cuePlayer_95 : decode cX4_cuePlayer 95 = .ok (.istore 7, 2) := by decide +kernel
theorem dX4_cuePlayer_97 : decode cX4_cuePlayer 97 = .ok (.iload 6, 2) := by decide +kernel
theorem dX4_cuePlayer_99 : decode cX4_cuePlayer 99 = .ok (.iload_n 1, 1) := by decide +kernel
theorem dX4_cuePlayer_100 : decode cX4_cuePlayer 100 = .ok (.if_icmp .eq 28, 3) := by decide +kernel
theorem dX4_cuePlayer_103 : decode cX4_cuePlayer 103 = .ok (.iload 7, 2) := by decide +kernel
theorem dX4_cuePlayer_105 : decode cX4_cuePlayer 105 = .ok (.iload 5, 2) := by decide +kernel
theorem dX4_cuePlayer_107 : decode cX4_cuePlayer 107 = .ok (.if_icmp .le 21, 3) := by decide +kernel
theorem dX4_cuePlayer_110 : decode cX4_cuePlayer 110 = .ok (.aload_n 0, 1) := by decide +kernel
theorem dX4_cuePlayer_111 : decode cX4_cuePlayer 111 = .ok (.iload 6, 2) := by decide +kernel
theorem dX4_cuePlayer_113 : decode cX4_cuePlayer 113 = .ok (.iload_n 2, 1) := by decide +kernel
theorem dX4_cuePlayer_114 : decode cX4_cuePlayer 114 = .ok (.invokevirtual 44, 3) := by decide +kernel
theorem dX4_cuePlayer_117 : decode cX4_cuePlayer 117 = .ok (.ifCond .ne 11, 3) := by decide +kernel
theorem dX4_cuePlayer_120 : decode cX4_cuePlayer 120 = .ok (.iload 6, 2) := by decide +kernel
theorem dX4_cuePlayer_122 : decode cX4_cuePlayer 122 = .ok (.istore 4, 2) := by decide +kernel
theorem dX4_cuePlayer_124 : decode cX4_cuePlayer 124 = .ok (.iload 7, 2) := by decide +kernel
theorem dX4_cuePlayer_126 : decode cX4_cuePlayer 126 = .ok (.istore 5, 2) := by decide +kernel
theorem dX4_cuePlayer_128 : decode cX4_cuePlayer 128 = .ok (.iinc 6 1, 3) := by decide +kernel
theorem dX4_cuePlayer_131 : decode cX4_cuePlayer 131 = .ok (.goto (-53), 3) := by decide +kernel
theorem dX4_cuePlayer_134 : decode cX4_cuePlayer 134 = .ok (.iload 4, 2) := by decide +kernel
theorem dX4_cuePlayer_136 : decode cX4_cuePlayer 136 = .ok (.ireturn, 1) := by decide +kernel
theorem dX4_silenceAround_0 : decode cX4_silenceAround 0 = .ok (.iconst 0, 1) := by decide +kernel
theorem dX4_silenceAround_1 : decode cX4_silenceAround 1 = .ok (.istore_n 3, 1) := by decide +kernel
theorem dX4_silenceAround_2 : decode cX4_silenceAround 2 = .ok (.iload_n 2, 1) := by decide +kernel
theorem dX4_silenceAround_3 : decode cX4_silenceAround 3 = .ok (.iconst 1, 1) := by decide +kernel
theorem dX4_silenceAround_4 : decode cX4_silenceAround 4 = .ok (.isub, 1) := by decide +kernel
theorem dX4_silenceAround_5 : decode cX4_silenceAround 5 = .ok (.istore 4, 2) := by decide +kernel
theorem dX4_silenceAround_7 : decode cX4_silenceAround 7 = .ok (.iload 4, 2) := by decide +kernel
theorem dX4_silenceAround_9 : decode cX4_silenceAround 9 = .ok (.ifCond .lt 38, 3) := by decide +kernel
theorem dX4_silenceAround_12 : decode cX4_silenceAround 12 = .ok (.aload_n 0, 1) := by decide +kernel
theorem dX4_silenceAround_13 : decode cX4_silenceAround 13 = .ok (.iload_n 1, 1) := by decide +kernel
theorem dX4_silenceAround_14 : decode cX4_silenceAround 14 = .ok (.iload 4, 2) := by decide +kernel
theorem dX4_silenceAround_16 : decode cX4_silenceAround 16 = .ok (.invokevirtual 48, 3) := by decide +kernel
theorem dX4_silenceAround_19 : decode cX4_silenceAround 19 = .ok (.istore 5, 2) := by decide +kernel
theorem dX4_silenceAround_21 : decode cX4_silenceAround 21 = .ok (.iload_n 3, 1) := by decide +kernel
theorem dX4_silenceAround_22 : decode cX4_silenceAround 22 = .ok (.iload 5, 2) := by decide +kernel
theorem dX4_silenceAround_24 : decode cX4_silenceAround 24 = .ok (.iadd, 1) := by decide +kernel
theorem dX4_silenceAround_25 : decode cX4_silenceAround 25 = .ok (.istore_n 3, 1) := by decide +kernel
theorem dX4_silenceAround_26 : decode cX4_silenceAround 26 = .ok (.iload 5, 2) := by decide +kernel
theorem dX4_silenceAround_28 : decode cX4_silenceAround 28 = .ok (.aload_n 0, 1) := by decide +kernel
theorem dX4_silenceAround_29 : decode cX4_silenceAround 29 = .ok (.getfield 9, 3) := by decide +kernel
theorem dX4_silenceAround_32 : decode cX4_silenceAround 32 = .ok (.iload 4, 2) := by decide +kernel
theorem dX4_silenceAround_34 : decode cX4_silenceAround 34 = .ok (.iaload, 1) := by decide +kernel
theorem dX4_silenceAround_35 : decode cX4_silenceAround 35 = .ok (.if_icmp .ge 6, 3) := by decide +kernel
theorem dX4_silenceAround_38 : decode cX4_silenceAround 38 = .ok (.goto 9, 3) := by decide +kernel
theorem dX4_silenceAround_41 : decode cX4_silenceAround 41 = .ok (.iinc 4 (-1), 3) := by decide +kernel
theorem dX4_silenceAround_44 : decode cX4_silenceAround 44 = .ok (.goto (-37), 3) := by decide +kernel
theorem dX4_silenceAround_47 : decode cX4_silenceAround 47 = .ok (.iload_n 2, 1) := by decide +kernel
theorem dX4_silenceAround_48 : decode cX4_silenceAround 48 = .ok (.istore 4, 2) := by decide +kernel
theorem dX4_silenceAround_50 : decode cX4_silenceAround 50 = .ok (.iload 4, 2) := by decide +kernel
theorem dX4_silenceAround_52 : decode cX4_silenceAround 52 = .ok (.aload_n 0, 1) := by decide +kernel
theorem dX4_silenceAround_53 : decode cX4_silenceAround 53 = .ok (.getfield 30, 3) := by decide +kernel
theorem dX4_silenceAround_56 : decode cX4_silenceAround 56 = .ok (.if_icmp .ge 38, 3) := by decide +kernel
theorem dX4_silenceAround_59 : decode cX4_silenceAround 59 = .ok (.aload_n 0, 1) := by decide +kernel
theorem dX4_silenceAround_60 : decode cX4_silenceAround 60 = .ok (.iload_n 1, 1) := by decide +kernel
theorem dX4_silenceAround_61 : decode cX4_silenceAround 61 = .ok (.iload 4, 2) := by decide +kernel
theorem dX4_silenceAround_63 : decode cX4_silenceAround 63 = .ok (.invokevirtual 51, 3) := by decide +kernel
theorem dX4_silenceAround_66 : decode cX4_silenceAround 66 = .ok (.istore 5, 2) := by decide +kernel
theorem dX4_silenceAround_68 : decode cX4_silenceAround 68 = .ok (.iload_n 3, 1) := by decide +kernel
theorem dX4_silenceAround_69 : decode cX4_silenceAround 69 = .ok (.iload 5, 2) := by decide +kernel
theorem dX4_silenceAround_71 : decode cX4_silenceAround 71 = .ok (.iadd, 1) := by decide +kernel
theorem dX4_silenceAround_72 : decode cX4_silenceAround 72 = .ok (.istore_n 3, 1) := by decide +kernel
theorem dX4_silenceAround_73 : decode cX4_silenceAround 73 = .ok (.iload 5, 2) := by decide +kernel
theorem dX4_silenceAround_75 : decode cX4_silenceAround 75 = .ok (.aload_n 0, 1) := by decide +kernel
theorem dX4_silenceAround_76 : decode cX4_silenceAround 76 = .ok (.getfield 9, 3) := by decide +kernel
theorem dX4_silenceAround_79 : decode cX4_silenceAround 79 = .ok (.iload 4, 2) := by decide +kernel
theorem dX4_silenceAround_81 : decode cX4_silenceAround 81 = .ok (.iaload, 1) := by decide +kernel
theorem dX4_silenceAround_82 : decode cX4_silenceAround 82 = .ok (.if_icmp .ge 6, 3) := by decide +kernel
theorem dX4_silenceAround_85 : decode cX4_silenceAround 85 = .ok (.goto 9, 3) := by decide +kernel
theorem dX4_silenceAround_88 : decode cX4_silenceAround 88 = .ok (.iinc 4 1, 3) := by decide +kernel
theorem dX4_silenceAround_91 : decode cX4_silenceAround 91 = .ok (.goto (-41), 3) := by decide +kernel
theorem dX4_silenceAround_94 : decode cX4_silenceAround 94 = .ok (.iload_n 3, 1) := by decide +kernel
theorem dX4_silenceAround_95 : decode cX4_silenceAround 95 = .ok (.ireturn, 1) := by decide +kernel
theorem dX4_silenceAtEnd_0 : decode cX4_silenceAtEnd 0 = .ok (.iload_n 1, 1) := by decide +kernel
theorem dX4_silenceAtEnd_1 : decode cX4_silenceAtEnd 1 = .ok (.iload_n 2, 1) := by decide +kernel
theorem dX4_silenceAtEnd_2 : decode cX4_silenceAtEnd 2 = .ok (.invokestatic 38, 3) := by decide +kernel
theorem dX4_silenceAtEnd_5 : decode cX4_silenceAtEnd 5 = .ok (.istore_n 3, 1) := by decide +kernel
theorem dX4_silenceAtEnd_6 : decode cX4_silenceAtEnd 6 = .ok (.iconst 0, 1) := by decide +kernel
theorem dX4_silenceAtEnd_7 : decode cX4_silenceAtEnd 7 = .ok (.istore 4, 2) := by decide +kernel
theorem dX4_silenceAtEnd_9 : decode cX4_silenceAtEnd 9 = .ok (.iconst 0, 1) := by decide +kernel
theorem dX4_silenceAtEnd_10 : decode cX4_silenceAtEnd 10 = .ok (.istore 5, 2) := by decide +kernel
theorem dX4_silenceAtEnd_12 : decode cX4_silenceAtEnd 12 = .ok (.iconst 0, 1) := by decide +kernel
theorem dX4_silenceAtEnd_13 : decode cX4_silenceAtEnd 13 = .ok (.istore 6, 2) := by decide +kernel
theorem dX4_silenceAtEnd_15 : decode cX4_silenceAtEnd 15 = .ok (.iload 6, 2) := by decide +kernel
theorem dX4_silenceAtEnd_17 : decode cX4_silenceAtEnd 17 = .ok (.aload_n 0, 1) := by decide +kernel
theorem dX4_silenceAtEnd_18 : decode cX4_silenceAtEnd 18 = .ok (.getfield 21, 3) := by decide +kernel
theorem dX4_silenceAtEnd_21 : decode cX4_silenceAtEnd 21 = .ok (.iload_n 3, 1) := by decide +kernel
theorem dX4_silenceAtEnd_22 : decode cX4_silenceAtEnd 22 = .ok (.iaload, 1) := by decide +kernel
theorem dX4_silenceAtEnd_23 : decode cX4_silenceAtEnd 23 = .ok (.if_icmp .ge 35, 3) := by decide +kernel
theorem dX4_silenceAtEnd_26 : decode cX4_silenceAtEnd 26 = .ok (.iload 4, 2) := by decide +kernel
theorem dX4_silenceAtEnd_28 : decode cX4_silenceAtEnd 28 = .ok (.aload_n 0, 1) := by decide +kernel
theorem dX4_silenceAtEnd_29 : decode cX4_silenceAtEnd 29 = .ok (.iload_n 3, 1) := by decide +kernel
theorem dX4_silenceAtEnd_30 : decode cX4_silenceAtEnd 30 = .ok (.iload 6, 2) := by decide +kernel
theorem dX4_silenceAtEnd_32 : decode cX4_silenceAtEnd 32 = .ok (.invokevirtual 34, 3) := by decide +kernel
theorem dX4_silenceAtEnd_35 : decode cX4_silenceAtEnd 35 = .ok (.iadd, 1) := by decide +kernel
theorem dX4_silenceAtEnd_36 : decode cX4_silenceAtEnd 36 = .ok (.istore 4, 2) := by decide +kernel
theorem dX4_silenceAtEnd_38 : decode cX4_silenceAtEnd 38 = .ok (.aload_n 0, 1) := by decide +kernel
theorem dX4_silenceAtEnd_39 : decode cX4_silenceAtEnd 39 = .ok (.iload_n 3, 1) := by decide +kernel
theorem dX4_silenceAtEnd_40 : decode cX4_silenceAtEnd 40 = .ok (.iload 6, 2) := by decide +kernel
theorem dX4_silenceAtEnd_42 : decode cX4_silenceAtEnd 42 = .ok (.invokevirtual 41, 3) := by decide +kernel
theorem dX4_silenceAtEnd_45 : decode cX4_silenceAtEnd 45 = .ok (.ifCond .le 7, 3) := by decide +kernel
theorem dX4_silenceAtEnd_48 : decode cX4_silenceAtEnd 48 = .ok (.iload 4, 2) := by decide +kernel
theorem dX4_silenceAtEnd_50 : decode cX4_silenceAtEnd 50 = .ok (.istore 5, 2) := by decide +kernel
theorem dX4_silenceAtEnd_52 : decode cX4_silenceAtEnd 52 = .ok (.iinc 6 1, 3) := by decide +kernel
theorem dX4_silenceAtEnd_55 : decode cX4_silenceAtEnd 55 = .ok (.goto (-40), 3) := by decide +kernel
theorem dX4_silenceAtEnd_58 : decode cX4_silenceAtEnd 58 = .ok (.aload_n 0, 1) := by decide +kernel
theorem dX4_silenceAtEnd_59 : decode cX4_silenceAtEnd 59 = .ok (.getfield 9, 3) := by decide +kernel
theorem dX4_silenceAtEnd_62 : decode cX4_silenceAtEnd 62 = .ok (.iload_n 2, 1) := by decide +kernel
theorem dX4_silenceAtEnd_63 : decode cX4_silenceAtEnd 63 = .ok (.iaload, 1) := by decide +kernel
theorem dX4_silenceAtEnd_64 : decode cX4_silenceAtEnd 64 = .ok (.iload 5, 2) := by decide +kernel
theorem dX4_silenceAtEnd_66 : decode cX4_silenceAtEnd 66 = .ok (.isub, 1) := by decide +kernel
theorem dX4_silenceAtEnd_67 : decode cX4_silenceAtEnd 67 = .ok (.ireturn, 1) := by decide +kernel
theorem dX4_silenceAtBeginning_0 : decode cX4_silenceAtBeginning 0 = .ok (.iload_n 1, 1) := by decide +kernel
theorem dX4_silenceAtBeginning_1 : decode cX4_silenceAtBeginning 1 = .ok (.iload_n 2, 1) := by decide +kernel
theorem dX4_silenceAtBeginning_2 : decode cX4_silenceAtBeginning 2 = .ok (.invokestatic 38, 3) := by decide +kernel
theorem dX4_silenceAtBeginning_5 : decode cX4_silenceAtBeginning 5 = .ok (.istore_n 3, 1) := by decide +kernel
theorem dX4_silenceAtBeginning_6 : decode cX4_silenceAtBeginning 6 = .ok (.iconst 0, 1) := by decide +kernel
theorem dX4_silenceAtBeginning_7 : decode cX4_silenceAtBeginning 7 = .ok (.istore 4, 2) := by decide +kernel
theorem dX4_silenceAtBeginning_9 : decode cX4_silenceAtBeginning 9 = .ok (.iconst 0, 1) := by decide +kernel
theorem dX4_silenceAtBeginning_10 : decode cX4_silenceAtBeginning 10 = .ok (.istore 5, 2) := by decide +kernel
theorem dX4_silenceAtBeginning_12 : decode cX4_silenceAtBeginning 12 = .ok (.iload 5, 2) := by decide +kernel
theorem dX4_silenceAtBeginning_14 : decode cX4_silenceAtBeginning 14 = .ok (.aload_n 0, 1) := by decide +kernel
theorem dX4_silenceAtBeginning_15 : decode cX4_silenceAtBeginning 15 = .ok (.getfield 21, 3) := by decide +kernel
theorem dX4_silenceAtBeginning_18 : decode cX4_silenceAtBeginning 18 = .ok (.iload_n 3, 1) := by decide +kernel
theorem dX4_silenceAtBeginning_19 : decode cX4_silenceAtBeginning 19 = .ok (.iaload, 1) := by decide +kernel
theorem dX4_silenceAtBeginning_20 : decode cX4_silenceAtBeginning 20 = .ok (.if_icmp .ge 34, 3) := by decide +kernel
theorem dX4_silenceAtBeginning_23 : decode cX4_silenceAtBeginning 23 = .ok (.aload_n 0, 1) := by decide +kernel
theorem dX4_silenceAtBeginning_24 : decode cX4_silenceAtBeginning 24 = .ok (.iload_n 3, 1) := by decide +kernel
theorem dX4_silenceAtBeginning_25 : decode cX4_silenceAtBeginning 25 = .ok (.iload 5, 2) := by decide +kernel
theorem dX4_silenceAtBeginning_27 : decode cX4_silenceAtBeginning 27 = .ok (.invokevirtual 41, 3) := by decide +kernel
theorem dX4_silenceAtBeginning_30 : decode cX4_silenceAtBeginning 30 = .ok (.ifCond .le 6, 3) := by decide +kernel
theorem dX4_silenceAtBeginning_33 : decode cX4_silenceAtBeginning 33 = .ok (.iload 4, 2) := by decide +kernel
theorem dX4_silenceAtBeginning_35 : decode cX4_silenceAtBeginning 35 = .ok (.ireturn, 1) := by decide +kernel
theorem dX4_silenceAtBeginning_36 : decode cX4_silenceAtBeginning 36 = .ok (.iload 4, 2) := by decide +kernel
theorem dX4_silenceAtBeginning_38 : decode cX4_silenceAtBeginning 38 = .ok (.aload_n 0, 1) := by decide +kernel
theorem dX4_silenceAtBeginning_39 : decode cX4_silenceAtBeginning 39 = .ok (.iload_n 3, 1) := by decide +kernel
theorem dX4_silenceAtBeginning_40 : decode cX4_silenceAtBeginning 40 = .ok (.iload 5, 2) := by decide +kernel
theorem dX4_silenceAtBeginning_42 : decode cX4_silenceAtBeginning 42 = .ok (.invokevirtual 34, 3) := by decide +kernel
theorem dX4_silenceAtBeginning_45 : decode cX4_silenceAtBeginning 45 = .ok (.iadd, 1) := by decide +kernel
theorem dX4_silenceAtBeginning_46 : decode cX4_silenceAtBeginning 46 = .ok (.istore 4, 2) := by decide +kernel
theorem dX4_silenceAtBeginning_48 : decode cX4_silenceAtBeginning 48 = .ok (.iinc 5 1, 3) := by decide +kernel
theorem dX4_silenceAtBeginning_51 : decode cX4_silenceAtBeginning 51 = .ok (.goto (-39), 3) := by decide +kernel
theorem dX4_silenceAtBeginning_54 : decode cX4_silenceAtBeginning 54 = .ok (.aload_n 0, 1) := by decide +kernel
theorem dX4_silenceAtBeginning_55 : decode cX4_silenceAtBeginning 55 = .ok (.getfield 9, 3) := by decide +kernel
theorem dX4_silenceAtBeginning_58 : decode cX4_silenceAtBeginning 58 = .ok (.iload_n 2, 1) := by decide +kernel
theorem dX4_silenceAtBeginning_59 : decode cX4_silenceAtBeginning 59 = .ok (.iaload, 1) := by decide +kernel
theorem dX4_silenceAtBeginning_60 : decode cX4_silenceAtBeginning 60 = .ok (.ireturn, 1) := by decide +kernel
theorem dX5_init_0 : decode cX5_init 0 = .ok (.aload_n 0, 1) := by decide +kernel
theorem dX5_init_1 : decode cX5_init 1 = .ok (.invokespecial 3, 3) := by decide +kernel
theorem dX5_init_4 : decode cX5_init 4 = .ok (.aload_n 0, 1) := by decide +kernel
theorem dX5_init_5 : decode cX5_init 5 = .ok (.bipush 32, 2) := by decide +kernel
theorem dX5_init_7 : decode cX5_init 7 = .ok (.newarray .int, 2) := by decide +kernel
theorem dX5_init_9 : decode cX5_init 9 = .ok (.putfield 9, 3) := by decide +kernel
theorem dX5_init_12 : decode cX5_init 12 = .ok (.aload_n 0, 1) := by decide +kernel
theorem dX5_init_13 : decode cX5_init 13 = .ok (.bipush 33, 2) := by decide +kernel
theorem dX5_init_15 : decode cX5_init 15 = .ok (.newarray .int, 2) := by decide +kernel
theorem dX5_init_17 : decode cX5_init 17 = .ok (.putfield 15, 3) := by decide +kernel
theorem dX5_init_20 : decode cX5_init 20 = .ok (.aload_n 0, 1) := by decide +kernel
theorem dX5_init_21 : decode cX5_init 21 = .ok (.bipush 33, 2) := by decide +kernel
theorem dX5_init_23 : decode cX5_init 23 = .ok (.newarray .int, 2) := by decide +kernel
theorem dX5_init_25 : decode cX5_init 25 = .ok (.putfield 18, 3) := by decide +kernel
theorem dX5_init_28 : decode cX5_init 28 = .ok (.aload_n 0, 1) := by decide +kernel
theorem dX5_init_29 : decode cX5_init 29 = .ok (.bipush 32, 2) := by decide +kernel
theorem dX5_init_31 : decode cX5_init 31 = .ok (.newarray .int, 2) := by decide +kernel
theorem dX5_init_33 : decode cX5_init 33 = .ok (.putfield 21, 3) := by decide +kernel
theorem dX5_init_36 : decode cX5_init 36 = .ok (.return_, 1) := by decide +kernel
theorem dX5_draw_0 : decode cX5_draw 0 = .ok (.aload_n 0, 1) := by decide +kernel
theorem dX5_draw_1 : decode cX5_draw 1 = .ok (.iconst 0, 1) := by decide +kernel
theorem dX5_draw_2 : decode cX5_draw 2 = .ok (.putfield 24, 3) := by decide +kernel
theorem dX5_draw_5 : decode cX5_draw 5 = .ok (.iload_n 2, 1) := by decide +kernel
theorem dX5_draw_6 : decode cX5_draw 6 = .ok (.iconst (-1), 1) := by decide +kernel
theorem dX5_draw_7 : decode cX5_draw 7 = .ok (.if_icmp .ne 13, 3) := by decide +kernel
theorem dX5_draw_10 : decode cX5_draw 10 = .ok (.aload_n 0, 1) := by decide +kernel
theorem dX5_draw_11 : decode cX5_draw 11 = .ok (.iconst 0, 1) := by decide +kernel
theorem dX5_draw_12 : decode cX5_draw 12 = .ok (.bipush 24, 2) := by decide +kernel
theorem dX5_draw_14 : decode cX5_draw 14 = .ok (.bipush 16, 2) := by decide +kernel
theorem dX5_draw_16 : decode cX5_draw 16 = .ok (.invokevirtual 28, 3) := by decide +kernel
theorem dX5_draw_19 : decode cX5_draw 19 = .ok (.return_, 1) := by decide +kernel
theorem dX5_draw_20 : decode cX5_draw 20 = .ok (.aload_n 0, 1) := by decide +kernel
theorem dX5_draw_21 : decode cX5_draw 21 = .ok (.getfield 21, 3) := by decide +kernel
theorem dX5_draw_24 : decode cX5_draw 24 = .ok (.iconst (-1), 1) := by decide +kernel
theorem dX5_draw_25 : decode cX5_draw 25 = .ok (.invokestatic 32, 3) := by decide +kernel
theorem dX5_draw_28 : decode cX5_draw 28 = .ok (.iconst 0, 1) := by decide +kernel
theorem dX5_draw_29 : decode cX5_draw 29 = .ok (.istore 4, 2) := by decide +kernel
theorem dX5_draw_31 : decode cX5_draw 31 = .ok (.iload 4, 2) := by decide +kernel
theorem dX5_draw_33 : decode cX5_draw 33 = .ok (.iconst 5, 1) := by decide +kernel
theorem dX5_draw_34 : decode cX5_draw 34 = .ok (.if_icmp .ge 37, 3) := by decide +kernel
theorem dX5_draw_37 : decode cX5_draw 37 = .ok (.iload_n 2, 1) := by decide +kernel
theorem dX5_draw_38 : decode cX5_draw 38 = .ok (.iconst 5, 1) := by decide +kernel
theorem dX5_draw_39 : decode cX5_draw 39 = .ok (.if_icmp .eq 9, 3) := by decide +kernel
theorem dX5_draw_42 : decode cX5_draw 42 = .ok (.iload_n 2, 1) := by decide +kernel
theorem dX5_draw_43 : decode cX5_draw 43 = .ok (.iload 4, 2) := by decide +kernel
theorem dX5_draw_45 : decode cX5_draw 45 = .ok (.if_icmp .ne 20, 3) := by decide +kernel
theorem dX5_draw_48 : decode cX5_draw 48 = .ok (.aload_n 0, 1) := by decide +kernel
theorem dX5_draw_49 : decode cX5_draw 49 = .ok (.aload_n 1, 1) := by decide +kernel
theorem dX5_draw_50 : decode cX5_draw 50 = .ok (.iload 4, 2) := by decide +kernel
theorem dX5_draw_52 : decode cX5_draw 52 = .ok (.iload_n 3, 1) := by decide +kernel
theorem dX5_draw_53 : decode cX5_draw 53 = .ok (.invokestatic 38, 3) := by decide +kernel
theorem dX5_draw_56 : decode cX5_draw 56 = .ok (.aload_n 1, 1) := by decide +kernel
theorem dX5_draw_57 : decode cX5_draw 57 = .ok (.getfield 42, 3) := by decide +kernel
theorem dX5_draw_60 : decode cX5_draw 60 = .ok (.iload_n 3, 1) := by decide +kernel
theorem dX5_draw_61 : decode cX5_draw 61 = .ok (.iaload, 1) := by decide +kernel
theorem dX5_draw_62 : decode cX5_draw 62 = .ok (.invokevirtual 47, 3) := by decide +kernel
theorem dX5_draw_65 : decode cX5_draw 65 = .ok (.iinc 4 1, 3) := by decide +kernel
theorem dX5_draw_68 : decode cX5_draw 68 = .ok (.goto (-37), 3) := by decide +kernel
theorem dX5_draw_71 : decode cX5_draw 71 = .ok (.aload_n 0, 1) := by decide +kernel
theorem dX5_draw_72 : decode cX5_draw 72 = .ok (.aload_n 1, 1) := by decide +kernel
theorem dX5_draw_73 : decode cX5_draw 73 = .ok (.getfield 42, 3) := by decide +kernel
theorem dX5_draw_76 : decode cX5_draw 76 = .ok (.iload_n 3, 1) := by decide +kernel
theorem dX5_draw_77 : decode cX5_draw 77 = .ok (.iaload, 1) := by decide +kernel
theorem dX5_draw_78 : decode cX5_draw 78 = .ok (.invokevirtual 51, 3) := by decide +kernel
theorem dX5_draw_81 : decode cX5_draw 81 = .ok (.return_, 1) := by decide +kernel
theorem dX5_addPlaces_0 : decode cX5_addPlaces 0 = .ok (.iconst 0, 1) := by decide +kernel
theorem dX5_addPlaces_1 : decode cX5_addPlaces 1 = .ok (.istore 4, 2) := by decide +kernel
theorem dX5_addPlaces_3 : decode cX5_addPlaces 3 = .ok (.iconst 0, 1) := by decide +kernel
theorem dX5_addPlaces_4 : decode cX5_addPlaces 4 = .ok (.istore 5, 2) := by decide +kernel
theorem dX5_addPlaces_6 : decode cX5_addPlaces 6 = .ok (.iload 5, 2) := by decide +kernel
theorem dX5_addPlaces_8 : decode cX5_addPlaces 8 = .ok (.aload_n 1, 1) := by decide +kernel
theorem dX5_addPlaces_9 : decode cX5_addPlaces 9 = .ok (.getfield 55, 3) := by decide +kernel
theorem dX5_addPlaces_12 : decode cX5_addPlaces 12 = .ok (.iload_n 2, 1) := by decide +kernel
theorem dX5_addPlaces_13 : decode cX5_addPlaces 13 = .ok (.iaload, 1) := by decide +kernel
theorem dX5_addPlaces_14 : decode cX5_addPlaces 14 = .ok (.if_icmp .ge 48, 3) := by decide +kernel
theorem dX5_addPlaces_17 : decode cX5_addPlaces 17 = .ok (.iload 4, 2) := by decide +kernel
theorem dX5_addPlaces_19 : decode cX5_addPlaces 19 = .ok (.iload_n 3, 1) := by decide +kernel
theorem dX5_addPlaces_20 : decode cX5_addPlaces 20 = .ok (.if_icmp .ge 42, 3) := by decide +kernel
theorem dX5_addPlaces_23 : decode cX5_addPlaces 23 = .ok (.aload_n 0, 1) := by decide +kernel
theorem dX5_addPlaces_24 : decode cX5_addPlaces 24 = .ok (.iload 4, 2) := by decide +kernel
theorem dX5_addPlaces_26 : decode cX5_addPlaces 26 = .ok (.aload_n 1, 1) := by decide +kernel
theorem dX5_addPlaces_27 : decode cX5_addPlaces 27 = .ok (.iload_n 2, 1) := by decide +kernel
theorem dX5_addPlaces_28 : decode cX5_addPlaces 28 = .ok (.iload 5, 2) := by decide +kernel
theorem dX5_addPlaces_30 : decode cX5_addPlaces 30 = .ok (.invokevirtual 58, 3) := by decide +kernel
theorem dX5_addPlaces_33 : decode cX5_addPlaces 33 = .ok (.ifCond .le 7, 3) := by decide +kernel
theorem dX5_addPlaces_36 : decode cX5_addPlaces 36 = .ok (.iconst 1, 1) := by decide +kernel
theorem dX5_addPlaces_37 : decode cX5_addPlaces 37 = .ok (.goto 4, 3) := by decide +kernel
theorem dX5_addPlaces_40 : decode cX5_addPlaces 40 = .ok (.iconst 0, 1) := by decide +kernel
theorem dX5_addPlaces_41 : decode cX5_addPlaces 41 = .ok (.invokevirtual 61, 3) := by decide +kernel
theorem dX5_addPlaces_44 : decode cX5_addPlaces 44 = .ok (.iload 4, 2) := by decide +kernel
theorem dX5_addPlaces_46 : decode cX5_addPlaces 46 = .ok (.aload_n 1, 1) := by decide +kernel
theorem dX5_addPlaces_47 : decode cX5_addPlaces 47 = .ok (.iload_n 2, 1) := by decide +kernel
theorem dX5_addPlaces_48 : decode cX5_addPlaces 48 = .ok (.iload 5, 2) := by decide +kernel
theorem dX5_addPlaces_50 : decode cX5_addPlaces 50 = .ok (.invokevirtual 65, 3) := by decide +kernel
theorem dX5_addPlaces_53 : decode cX5_addPlaces 53 = .ok (.iadd, 1) := by decide +kernel
theorem dX5_addPlaces_54 : decode cX5_addPlaces 54 = .ok (.istore 4, 2) := by decide +kernel
theorem dX5_addPlaces_56 : decode cX5_addPlaces 56 = .ok (.iinc 5 1, 3) := by decide +kernel
theorem dX5_addPlaces_59 : decode cX5_addPlaces 59 = .ok (.goto (-53), 3) := by decide +kernel
theorem dX5_addPlaces_62 : decode cX5_addPlaces 62 = .ok (.iload 4, 2) := by decide +kernel
theorem dX5_addPlaces_64 : decode cX5_addPlaces 64 = .ok (.iload_n 3, 1) := by decide +kernel
theorem dX5_addPlaces_65 : decode cX5_addPlaces 65 = .ok (.if_icmp .ge 10, 3) := by decide +kernel
theorem dX5_addPlaces_68 : decode cX5_addPlaces 68 = .ok (.aload_n 0, 1) := by decide +kernel
theorem dX5_addPlaces_69 : decode cX5_addPlaces 69 = .ok (.iload 4, 2) := by decide +kernel
theorem dX5_addPlaces_71 : decode cX5_addPlaces 71 = .ok (.iconst 0, 1) := by decide +kernel
theorem dX5_addPlaces_72 : decode cX5_addPlaces 72 = .ok (.invokevirtual 61, 3) := by decide +kernel
theorem dX5_addPlaces_75 : decode cX5_addPlaces 75 = .ok (.return_, 1) := by decide +kernel
theorem dX5_addPlace_0 : decode cX5_addPlace 0 = .ok (.aload_n 0, 1) := by decide +kernel
theorem dX5_addPlace_1 : decode cX5_addPlace 1 = .ok (.getfield 21, 3) := by decide +kernel
theorem dX5_addPlace_4 : decode cX5_addPlace 4 = .ok (.iload_n 1, 1) := by decide +kernel
theorem dX5_addPlace_5 : decode cX5_addPlace 5 = .ok (.iaload, 1) := by decide +kernel
theorem dX5_addPlace_6 : decode cX5_addPlace 6 = .ok (.iconst (-1), 1) := by decide +kernel
theorem dX5_addPlace_7 : decode cX5_addPlace 7 = .ok (.if_icmp .ne 10, 3) := by decide +kernel
theorem dX5_addPlace_10 : decode cX5_addPlace 10 = .ok (.aload_n 0, 1) := by decide +kernel
theorem dX5_addPlace_11 : decode cX5_addPlace 11 = .ok (.getfield 21, 3) := by decide +kernel
theorem dX5_addPlace_14 : decode cX5_addPlace 14 = .ok (.iload_n 1, 1) := by decide +kernel
theorem dX5_addPlace_15 : decode cX5_addPlace 15 = .ok (.iconst 0, 1) := by decide +kernel
theorem dX5_addPlace_16 : decode cX5_addPlace 16 = .ok (.iastore, 1) := by decide +kernel
theorem dX5_addPlace_17 : decode cX5_addPlace 17 = .ok (.iload_n 2, 1) := by decide +kernel
theorem dX5_addPlace_18 : decode cX5_addPlace 18 = .ok (.ifCond .eq 13, 3) := by decide +kernel
theorem dX5_addPlace_21 : decode cX5_addPlace 21 = .ok (.aload_n 0, 1) := by decide +kernel
theorem dX5_addPlace_22 : decode cX5_addPlace 22 = .ok (.getfield 21, 3) := by decide +kernel
theorem dX5_addPlace_25 : decode cX5_addPlace 25 = .ok (.iload_n 1, 1) := by decide +kernel
theorem dX5_addPlace_26 : decode cX5_addPlace 26 = .ok (.dup2, 1) := by decide +kernel
theorem dX5_addPlace_27 : decode cX5_addPlace 27 = .ok (.iaload, 1) := by decide +kernel
theorem dX5_addPlace_28 : decode cX5_addPlace 28 = .ok (.iconst 1, 1) := by decide +kernel
theorem dX5_addPlace_29 : decode cX5_addPlace 29 = .ok (.iadd, 1) := by decide +kernel
theorem dX5_addPlace_30 : decode cX5_addPlace 30 = .ok (.iastore, 1) := by decide +kernel
theorem dX5_addPlace_31 : decode cX5_addPlace 31 = .ok (.return_, 1) := by decide +kernel
theorem dX5_addSprings_0 : decode cX5_addSprings 0 = .ok (.iconst 0, 1) := by decide +kernel
theorem dX5_addSprings_1 : decode cX5_addSprings 1 = .ok (.istore_n 2, 1) := by decide +kernel
theorem dX5_addSprings_2 : decode cX5_addSprings 2 = .ok (.iload_n 2, 1) := by decide +kernel
theorem dX5_addSprings_3 : decode cX5_addSprings 3 = .ok (.iload_n 1, 1) := by decide +kernel
theorem dX5_addSprings_4 : decode cX5_addSprings 4 = .ok (.if_icmp .ge 53, 3) := by decide +kernel
theorem dX5_addSprings_7 : decode cX5_addSprings 7 = .ok (.aload_n 0, 1) := by decide +kernel
theorem dX5_addSprings_8 : decode cX5_addSprings 8 = .ok (.getfield 21, 3) := by decide +kernel
theorem dX5_addSprings_11 : decode cX5_addSprings 11 = .ok (.iload_n 2, 1) := by decide +kernel
theorem dX5_addSprings_12 : decode cX5_addSprings 12 = .ok (.iaload, 1) := by decide +kernel
theorem dX5_addSprings_13 : decode cX5_addSprings 13 = .ok (.iconst (-1), 1) := by decide +kernel
theorem dX5_addSprings_14 : decode cX5_addSprings 14 = .ok (.if_icmp .eq 37, 3) := by decide +kernel
theorem dX5_addSprings_17 : decode cX5_addSprings 17 = .ok (.iconst 4, 1) := by decide +kernel
theorem dX5_addSprings_18 : decode cX5_addSprings 18 = .ok (.aload_n 0, 1) := by decide +kernel
theorem dX5_addSprings_19 : decode cX5_addSprings 19 = .ok (.getfield 21, 3) := by decide +kernel
theorem dX5_addSprings_22 : decode cX5_addSprings 22 = .ok (.iload_n 2, 1) := by decide +kernel
theorem dX5_addSprings_23 : decode cX5_addSprings 23 = .ok (.iaload, 1) := by decide +kernel
theorem dX5_addSprings_24 : decode cX5_addSprings 24 = .ok (.iadd, 1) := by decide +kernel
theorem dX5_addSprings_25 : decode cX5_addSprings 25 = .ok (.istore_n 3, 1) := by decide +kernel
theorem dX5_addSprings_26 : decode cX5_addSprings 26 = .ok (.aload_n 0, 1) := by decide +kernel
theorem dX5_addSprings_27 : decode cX5_addSprings 27 = .ok (.iload_n 2, 1) := by decide +kernel
theorem dX5_addSprings_28 : decode cX5_addSprings 28 = .ok (.iload_n 1, 1) := by decide +kernel
theorem dX5_addSprings_29 : decode cX5_addSprings 29 = .ok (.invokevirtual 68, 3) := by decide +kernel
theorem dX5_addSprings_32 : decode cX5_addSprings 32 = .ok (.iload_n 2, 1) := by decide +kernel
theorem dX5_addSprings_33 : decode cX5_addSprings 33 = .ok (.isub, 1) := by decide +kernel
theorem dX5_addSprings_34 : decode cX5_addSprings 34 = .ok (.invokestatic 71, 3) := by decide +kernel
theorem dX5_addSprings_37 : decode cX5_addSprings 37 = .ok (.istore 4, 2) := by decide +kernel
theorem dX5_addSprings_39 : decode cX5_addSprings 39 = .ok (.aload_n 0, 1) := by decide +kernel
theorem dX5_addSprings_40 : decode cX5_addSprings 40 = .ok (.iload_n 2, 1) := by decide +kernel
theorem dX5_addSprings_41 : decode cX5_addSprings 41 = .ok (.iload 4, 2) := by decide +kernel
theorem dX5_addSprings_43 : decode cX5_addSprings 43 = .ok (.iload_n 3, 1) := by decide +kernel
theorem dX5_addSprings_44 : decode cX5_addSprings 44 = .ok (.invokestatic 75, 3) := by decide +kernel
theorem dX5_addSprings_47 : decode cX5_addSprings 47 = .ok (.iload_n 3, 1) := by decide +kernel
theorem dX5_addSprings_48 : decode cX5_addSprings 48 = .ok (.invokevirtual 28, 3) := by decide +kernel
theorem dX5_addSprings_51 : decode cX5_addSprings 51 = .ok (.iinc 2 1, 3) := by decide +kernel
theorem dX5_addSprings_54 : decode cX5_addSprings 54 = .ok (.goto (-52), 3) := by decide +kernel
theorem dX5_addSprings_57 : decode cX5_addSprings 57 = .ok (.return_, 1) := by decide +kernel
theorem dX5_nextPlace_0 : decode cX5_nextPlace 0 = .ok (.iload_n 1, 1) := by decide +kernel
theorem dX5_nextPlace_1 : decode cX5_nextPlace 1 = .ok (.iconst 1, 1) := by decide +kernel
theorem dX5_nextPlace_2 : decode cX5_nextPlace 2 = .ok (.iadd, 1) := by decide +kernel
theorem dX5_nextPlace_3 : decode cX5_nextPlace 3 = .ok (.istore_n 3, 1) := by decide +kernel
theorem dX5_nextPlace_4 : decode cX5_nextPlace 4 = .ok (.iload_n 3, 1) := by decide +kernel
theorem dX5_nextPlace_5 : decode cX5_nextPlace 5 = .ok (.iload_n 2, 1) := by decide +kernel
theorem dX5_nextPlace_6 : decode cX5_nextPlace 6 = .ok (.if_icmp .ge 21, 3) := by decide +kernel
theorem dX5_nextPlace_9 : decode cX5_nextPlace 9 = .ok (.aload_n 0, 1) := by decide +kernel
theorem dX5_nextPlace_10 : decode cX5_nextPlace 10 = .ok (.getfield 21, 3) := by decide +kernel
theorem dX5_nextPlace_13 : decode cX5_nextPlace 13 = .ok (.iload_n 3, 1) := by decide +kernel
theorem dX5_nextPlace_14 : decode cX5_nextPlace 14 = .ok (.iaload, 1) := by decide +kernel
theorem dX5_nextPlace_15 : decode cX5_nextPlace 15 = .ok (.iconst (-1), 1) := by decide +kernel
theorem dX5_nextPlace_16 : decode cX5_nextPlace 16 = .ok (.if_icmp .eq 5, 3) := by decide +kernel
theorem dX5_nextPlace_19 : decode cX5_nextPlace 19 = .ok (.iload_n 3, 1) := by decide +kernel
theorem dX5_nextPlace_20 : decode cX5_nextPlace 20 = .ok (.ireturn, 1) := by decide +kernel
theorem dX5_nextPlace_21 : decode cX5_nextPlace 21 = .ok (.iinc 3 1, 3) := by decide +kernel
theorem dX5_nextPlace_24 : decode cX5_nextPlace 24 = .ok (.goto (-20), 3) := by decide +kernel
theorem dX5_nextPlace_27 : decode cX5_nextPlace 27 = .ok (.iload_n 2, 1) := by decide +kernel
theorem dX5_nextPlace_28 : decode cX5_nextPlace 28 = .ok (.ireturn, 1) := by decide +kernel
theorem dX5_naturalWidth_0 : decode cX5_naturalWidth 0 = .ok (.bipush 6, 2) := by decide +kernel
theorem dX5_naturalWidth_2 : decode cX5_naturalWidth 2 = .ok (.istore_n 1, 1) := by decide +kernel
theorem dX5_naturalWidth_3 : decode cX5_naturalWidth 3 = .ok (.iload_n 0, 1) := by decide +kernel
theorem dX5_naturalWidth_4 : decode cX5_naturalWidth 4 = .ok (.istore_n 2, 1) := by decide +kernel
theorem dX5_naturalWidth_5 : decode cX5_naturalWidth 5 = .ok (.iload_n 2, 1) := by decide +kernel
theorem dX5_naturalWidth_6 : decode cX5_naturalWidth 6 = .ok (.iconst 1, 1) := by decide +kernel
theorem dX5_naturalWidth_7 : decode cX5_naturalWidth 7 = .ok (.if_icmp .le 13, 3) := by decide +kernel
theorem dX5_naturalWidth_10 : decode cX5_naturalWidth 10 = .ok (.iinc 1 3, 3) := by decide +kernel
theorem dX5_naturalWidth_13 : decode cX5_naturalWidth 13 = .ok (.iload_n 2, 1) := by decide +kernel
theorem dX5_naturalWidth_14 : decode cX5_naturalWidth 14 = .ok (.iconst 2, 1) := by decide +kernel
theorem dX5_naturalWidth_15 : decode cX5_naturalWidth 15 = .ok (.idiv, 1) := by decide +kernel
theorem dX5_naturalWidth_16 : decode cX5_naturalWidth 16 = .ok (.istore_n 2, 1) := by decide +kernel
theorem dX5_naturalWidth_17 : decode cX5_naturalWidth 17 = .ok (.goto (-12), 3) := by decide +kernel
theorem dX5_naturalWidth_20 : decode cX5_naturalWidth 20 = .ok (.iload_n 1, 1) := by decide +kernel
theorem dX5_naturalWidth_21 : decode cX5_naturalWidth 21 = .ok (.ireturn, 1) := by decide +kernel
theorem dX5_addSpring_0 : decode cX5_addSpring 0 = .ok (.aload_n 0, 1) := by decide +kernel
theorem dX5_addSpring_1 : decode cX5_addSpring 1 = .ok (.getfield 9, 3) := by decide +kernel
theorem dX5_addSpring_4 : decode cX5_addSpring 4 = .ok (.aload_n 0, 1) := by decide +kernel
theorem dX5_addSpring_5 : decode cX5_addSpring 5 = .ok (.getfield 24, 3) := by decide +kernel
theorem dX5_addSpring_8 : decode cX5_addSpring 8 = .ok (.iload_n 1, 1) := by decide +kernel
theorem dX5_addSpring_9 : decode cX5_addSpring 9 = .ok (.iastore, 1) := by decide +kernel
theorem dX5_addSpring_10 : decode cX5_addSpring 10 = .ok (.aload_n 0, 1) := by decide +kernel
theorem dX5_addSpring_11 : decode cX5_addSpring 11 = .ok (.getfield 15, 3) := by decide +kernel
theorem dX5_addSpring_14 : decode cX5_addSpring 14 = .ok (.aload_n 0, 1) := by decide +kernel
theorem dX5_addSpring_15 : decode cX5_addSpring 15 = .ok (.getfield 24, 3) := by decide +kernel
theorem dX5_addSpring_18 : decode cX5_addSpring 18 = .ok (.iconst 1, 1) := by decide +kernel
theorem dX5_addSpring_19 : decode cX5_addSpring 19 = .ok (.iadd, 1) := by decide +kernel
theorem dX5_addSpring_20 : decode cX5_addSpring 20 = .ok (.aload_n 0, 1) := by decide +kernel
theorem dX5_addSpring_21 : decode cX5_addSpring 21 = .ok (.getfield 15, 3) := by decide +kernel
theorem dX5_addSpring_24 : decode cX5_addSpring 24 = .ok (.aload_n 0, 1) := by decide +kernel
theorem dX5_addSpring_25 : decode cX5_addSpring 25 = .ok (.getfield 24, 3) := by decide +kernel
theorem dX5_addSpring_28 : decode cX5_addSpring 28 = .ok (.iaload, 1) := by decide +kernel
theorem dX5_addSpring_29 : decode cX5_addSpring 29 = .ok (.iload_n 2, 1) := by decide +kernel
theorem dX5_addSpring_30 : decode cX5_addSpring 30 = .ok (.iadd, 1) := by decide +kernel
theorem dX5_addSpring_31 : decode cX5_addSpring 31 = .ok (.iastore, 1) := by decide +kernel
theorem dX5_addSpring_32 : decode cX5_addSpring 32 = .ok (.aload_n 0, 1) := by decide +kernel
theorem dX5_addSpring_33 : decode cX5_addSpring 33 = .ok (.getfield 18, 3) := by decide +kernel
theorem dX5_addSpring_36 : decode cX5_addSpring 36 = .ok (.aload_n 0, 1) := by decide +kernel
theorem dX5_addSpring_37 : decode cX5_addSpring 37 = .ok (.getfield 24, 3) := by decide +kernel
theorem dX5_addSpring_40 : decode cX5_addSpring 40 = .ok (.iconst 1, 1) := by decide +kernel
theorem dX5_addSpring_41 : decode cX5_addSpring 41 = .ok (.iadd, 1) := by decide +kernel
theorem dX5_addSpring_42 : decode cX5_addSpring 42 = .ok (.aload_n 0, 1) := by decide +kernel
theorem dX5_addSpring_43 : decode cX5_addSpring 43 = .ok (.getfield 18, 3) := by decide +kernel
theorem dX5_addSpring_46 : decode cX5_addSpring 46 = .ok (.aload_n 0, 1) := by decide +kernel
theorem dX5_addSpring_47 : decode cX5_addSpring 47 = .ok (.getfield 24, 3) := by decide +kernel
theorem dX5_addSpring_50 : decode cX5_addSpring 50 = .ok (.iaload, 1) := by decide +kernel
theorem dX5_addSpring_51 : decode cX5_addSpring 51 = .ok (.iload_n 3, 1) := by decide +kernel
theorem dX5_addSpring_52 : decode cX5_addSpring 52 = .ok (.iadd, 1) := by decide +kernel
theorem dX5_addSpring_53 : decode cX5_addSpring 53 = .ok (.iastore, 1) := by decide +kernel
theorem dX5_addSpring_54 : decode cX5_addSpring 54 = .ok (.aload_n 0, 1) := by decide +kernel
theorem dX5_addSpring_55 : decode cX5_addSpring 55 = .ok (.dup, 1) := by decide +kernel
theorem dX5_addSpring_56 : decode cX5_addSpring 56 = .ok (.getfield 24, 3) := by decide +kernel
theorem dX5_addSpring_59 : decode cX5_addSpring 59 = .ok (.iconst 1, 1) := by decide +kernel
theorem dX5_addSpring_60 : decode cX5_addSpring 60 = .ok (.iadd, 1) := by decide +kernel
theorem dX5_addSpring_61 : decode cX5_addSpring 61 = .ok (.putfield 24, 3) := by decide +kernel
theorem dX5_addSpring_64 : decode cX5_addSpring 64 = .ok (.return_, 1) := by decide +kernel
theorem dX5_widthOfAll_0 : decode cX5_widthOfAll 0 = .ok (.aload_n 0, 1) := by decide +kernel
theorem dX5_widthOfAll_1 : decode cX5_widthOfAll 1 = .ok (.getfield 15, 3) := by decide +kernel
theorem dX5_widthOfAll_4 : decode cX5_widthOfAll 4 = .ok (.aload_n 0, 1) := by decide +kernel
theorem dX5_widthOfAll_5 : decode cX5_widthOfAll 5 = .ok (.getfield 24, 3) := by decide +kernel
theorem dX5_widthOfAll_8 : decode cX5_widthOfAll 8 = .ok (.iaload, 1) := by decide +kernel
theorem dX5_widthOfAll_9 : decode cX5_widthOfAll 9 = .ok (.ireturn, 1) := by decide +kernel
theorem dX5_leastOfAll_0 : decode cX5_leastOfAll 0 = .ok (.aload_n 0, 1) := by decide +kernel
theorem dX5_leastOfAll_1 : decode cX5_leastOfAll 1 = .ok (.getfield 18, 3) := by decide +kernel
theorem dX5_leastOfAll_4 : decode cX5_leastOfAll 4 = .ok (.aload_n 0, 1) := by decide +kernel
theorem dX5_leastOfAll_5 : decode cX5_leastOfAll 5 = .ok (.getfield 24, 3) := by decide +kernel
theorem dX5_leastOfAll_8 : decode cX5_leastOfAll 8 = .ok (.iaload, 1) := by decide +kernel
theorem dX5_leastOfAll_9 : decode cX5_leastOfAll 9 = .ok (.ireturn, 1) := by decide +kernel
theorem dX5_springFrom_0 : decode cX5_springFrom 0 = .ok (.iconst 0, 1) := by decide +kernel
theorem dX5_springFrom_1 : decode cX5_springFrom 1 = .ok (.istore_n 2, 1) := by decide +kernel
theorem dX5_springFrom_2 : decode cX5_springFrom 2 = .ok (.iload_n 2, 1) := by decide +kernel
theorem dX5_springFrom_3 : decode cX5_springFrom 3 = .ok (.aload_n 0, 1) := by decide +kernel
theorem dX5_springFrom_4 : decode cX5_springFrom 4 = .ok (.getfield 24, 3) := by decide +kernel
theorem dX5_springFrom_7 : decode cX5_springFrom 7 = .ok (.if_icmp .ge 21, 3) := by decide +kernel
theorem dX5_springFrom_10 : decode cX5_springFrom 10 = .ok (.aload_n 0, 1) := by decide +kernel
theorem dX5_springFrom_11 : decode cX5_springFrom 11 = .ok (.getfield 9, 3) := by decide +kernel
theorem dX5_springFrom_14 : decode cX5_springFrom 14 = .ok (.iload_n 2, 1) := by decide +kernel
theorem dX5_springFrom_15 : decode cX5_springFrom 15 = .ok (.iaload, 1) := by decide +kernel
theorem dX5_springFrom_16 : decode cX5_springFrom 16 = .ok (.iload_n 1, 1) := by decide +kernel
theorem dX5_springFrom_17 : decode cX5_springFrom 17 = .ok (.if_icmp .ne 5, 3) := by decide +kernel
theorem dX5_springFrom_20 : decode cX5_springFrom 20 = .ok (.iload_n 2, 1) := by decide +kernel
theorem dX5_springFrom_21 : decode cX5_springFrom 21 = .ok (.ireturn, 1) := by decide +kernel
theorem dX5_springFrom_22 : decode cX5_springFrom 22 = .ok (.iinc 2 1, 3) := by decide +kernel
theorem dX5_springFrom_25 : decode cX5_springFrom 25 = .ok (.goto (-23), 3) := by decide +kernel
theorem dX5_springFrom_28 : decode cX5_springFrom 28 = .ok (.iconst (-1), 1) := by decide +kernel
theorem dX5_springFrom_29 : decode cX5_springFrom 29 = .ok (.ireturn, 1) := by decide +kernel
theorem dX6_init_0 : decode cX6_init 0 = .ok (.aload_n 0, 1) := by decide +kernel
theorem dX6_init_1 : decode cX6_init 1 = .ok (.invokespecial 3, 3) := by decide +kernel
theorem dX6_init_4 : decode cX6_init 4 = .ok (.aload_n 0, 1) := by decide +kernel
theorem dX6_init_5 : decode cX6_init 5 = .ok (.new 9, 3) := by decide +kernel
theorem dX6_init_8 : decode cX6_init 8 = .ok (.dup, 1) := by decide +kernel
theorem dX6_init_9 : decode cX6_init 9 = .ok (.invokespecial 11, 3) := by decide +kernel
theorem dX6_init_12 : decode cX6_init 12 = .ok (.putfield 12, 3) := by decide +kernel
theorem dX6_init_15 : decode cX6_init 15 = .ok (.aload_n 0, 1) := by decide +kernel
theorem dX6_init_16 : decode cX6_init 16 = .ok (.new 16, 3) := by decide +kernel
theorem dX6_init_19 : decode cX6_init 19 = .ok (.dup, 1) := by decide +kernel
theorem dX6_init_20 : decode cX6_init 20 = .ok (.aload_n 0, 1) := by decide +kernel
theorem dX6_init_21 : decode cX6_init 21 = .ok (.getfield 12, 3) := by decide +kernel
theorem dX6_init_24 : decode cX6_init 24 = .ok (.invokespecial 18, 3) := by decide +kernel
theorem dX6_init_27 : decode cX6_init 27 = .ok (.putfield 21, 3) := by decide +kernel
theorem dX6_init_30 : decode cX6_init 30 = .ok (.aload_n 0, 1) := by decide +kernel
theorem dX6_init_31 : decode cX6_init 31 = .ok (.new 25, 3) := by decide +kernel
theorem dX6_init_34 : decode cX6_init 34 = .ok (.dup, 1) := by decide +kernel
theorem dX6_init_35 : decode cX6_init 35 = .ok (.aload_n 0, 1) := by decide +kernel
theorem dX6_init_36 : decode cX6_init 36 = .ok (.getfield 21, 3) := by decide +kernel
theorem dX6_init_39 : decode cX6_init 39 = .ok (.invokespecial 27, 3) := by decide +kernel
theorem dX6_init_42 : decode cX6_init 42 = .ok (.putfield 30, 3) := by decide +kernel
theorem dX6_init_45 : decode cX6_init 45 = .ok (.aload_n 0, 1) := by decide +kernel
theorem dX6_init_46 : decode cX6_init 46 = .ok (.bipush 16, 2) := by decide +kernel
theorem dX6_init_48 : decode cX6_init 48 = .ok (.anewarray 34, 3) := by decide +kernel
theorem dX6_init_51 : decode cX6_init 51 = .ok (.putfield 36, 3) := by decide +kernel
theorem dX6_init_54 : decode cX6_init 54 = .ok (.iconst 0, 1) := by decide +kernel
theorem dX6_init_55 : decode cX6_init 55 = .ok (.istore_n 1, 1) := by decide +kernel
theorem dX6_init_56 : decode cX6_init 56 = .ok (.iload_n 1, 1) := by decide +kernel
theorem dX6_init_57 : decode cX6_init 57 = .ok (.bipush 16, 2) := by decide +kernel
theorem dX6_init_59 : decode cX6_init 59 = .ok (.if_icmp .ge 26, 3) := by decide +kernel
theorem dX6_init_62 : decode cX6_init 62 = .ok (.aload_n 0, 1) := by decide +kernel
theorem dX6_init_63 : decode cX6_init 63 = .ok (.getfield 36, 3) := by decide +kernel
theorem dX6_init_66 : decode cX6_init 66 = .ok (.iload_n 1, 1) := by decide +kernel
theorem dX6_init_67 : decode cX6_init 67 = .ok (.new 34, 3) := by decide +kernel
theorem dX6_init_70 : decode cX6_init 70 = .ok (.dup, 1) := by decide +kernel
theorem dX6_init_71 : decode cX6_init 71 = .ok (.aload_n 0, 1) := by decide +kernel
theorem dX6_init_72 : decode cX6_init 72 = .ok (.getfield 12, 3) := by decide +kernel
theorem dX6_init_75 : decode cX6_init 75 = .ok (.invokespecial 40, 3) := by decide +kernel
theorem dX6_init_78 : decode cX6_init 78 = .ok (.aastore, 1) := by decide +kernel
theorem dX6_init_79 : decode cX6_init 79 = .ok (.iinc 1 1, 3) := by decide +kernel
theorem dX6_init_82 : decode cX6_init 82 = .ok (.goto (-26), 3) := by decide +kernel
theorem dX6_init_85 : decode cX6_init 85 = .ok (.aload_n 0, 1) := by decide +kernel
theorem dX6_init_86 : decode cX6_init 86 = .ok (.bipush 6, 2) := by decide +kernel
theorem dX6_init_88 : decode cX6_init 88 = .ok (.anewarray 41, 3) := by decide +kernel
theorem dX6_init_91 : decode cX6_init 91 = .ok (.putfield 43, 3) := by decide +kernel
theorem dX6_init_94 : decode cX6_init 94 = .ok (.iconst 0, 1) := by decide +kernel
theorem dX6_init_95 : decode cX6_init 95 = .ok (.istore_n 1, 1) := by decide +kernel
theorem dX6_init_96 : decode cX6_init 96 = .ok (.iload_n 1, 1) := by decide +kernel
theorem dX6_init_97 : decode cX6_init 97 = .ok (.bipush 6, 2) := by decide +kernel
theorem dX6_init_99 : decode cX6_init 99 = .ok (.if_icmp .ge 22, 3) := by decide +kernel
theorem dX6_init_102 : decode cX6_init 102 = .ok (.aload_n 0, 1) := by decide +kernel
theorem dX6_init_103 : decode cX6_init 103 = .ok (.getfield 43, 3) := by decide +kernel
theorem dX6_init_106 : decode cX6_init 106 = .ok (.iload_n 1, 1) := by decide +kernel
theorem dX6_init_107 : decode cX6_init 107 = .ok (.new 41, 3) := by decide +kernel
theorem dX6_init_110 : decode cX6_init 110 = .ok (.dup, 1) := by decide +kernel
theorem dX6_init_111 : decode cX6_init 111 = .ok (.invokespecial 47, 3) := by decide +kernel
theorem dX6_init_114 : decode cX6_init 114 = .ok (.aastore, 1) := by decide +kernel
theorem dX6_init_115 : decode cX6_init 115 = .ok (.iinc 1 1, 3) := by decide +kernel
theorem dX6_init_118 : decode cX6_init 118 = .ok (.goto (-22), 3) := by decide +kernel
theorem dX6_init_121 : decode cX6_init 121 = .ok (.return_, 1) := by decide +kernel
theorem dX6_bar_0 : decode cX6_bar 0 = .ok (.iload_n 1, 1) := by decide +kernel
theorem dX6_bar_1 : decode cX6_bar 1 = .ok (.iconst 1, 1) := by decide +kernel
theorem dX6_bar_2 : decode cX6_bar 2 = .ok (.bipush 32, 2) := by decide +kernel
theorem dX6_bar_4 : decode cX6_bar 4 = .ok (.invokestatic 48, 3) := by decide +kernel
theorem dX6_bar_7 : decode cX6_bar 7 = .ok (.aload_n 0, 1) := by decide +kernel
theorem dX6_bar_8 : decode cX6_bar 8 = .ok (.getfield 12, 3) := by decide +kernel
theorem dX6_bar_11 : decode cX6_bar 11 = .ok (.getfield 52, 3) := by decide +kernel
theorem dX6_bar_14 : decode cX6_bar 14 = .ok (.bipush 12, 2) := by decide +kernel
theorem dX6_bar_16 : decode cX6_bar 16 = .ok (.if_icmp .lt 13, 3) := by decide +kernel
theorem dX6_bar_19 : decode cX6_bar 19 = .ok (.new 56, 3) := by decide +kernel
theorem dX6_bar_22 : decode cX6_bar 22 = .ok (.dup, 1) := by decide +kernel
theorem dX6_bar_23 : decode cX6_bar 23 = .ok (.ldc 58, 2) := by decide +kernel
theorem dX6_bar_25 : decode cX6_bar 25 = .ok (.invokespecial 60, 3) := by decide +kernel
theorem dX6_bar_28 : decode cX6_bar 28 = .ok (.athrow, 1) := by decide +kernel
theorem dX6_bar_29 : decode cX6_bar 29 = .ok (.aload_n 0, 1) := by decide +kernel
theorem dX6_bar_30 : decode cX6_bar 30 = .ok (.getfield 12, 3) := by decide +kernel
theorem dX6_bar_33 : decode cX6_bar 33 = .ok (.iload_n 1, 1) := by decide +kernel
theorem dX6_bar_34 : decode cX6_bar 34 = .ok (.invokevirtual 63, 3) := by decide +kernel
theorem dX6_bar_37 : decode cX6_bar 37 = .ok (.ireturn, 1) := by decide +kernel
theorem dX6_note_0 : decode cX6_note 0 = .ok (.aload_n 0, 1) := by decide +kernel
theorem dX6_note_1 : decode cX6_note 1 = .ok (.iload_n 1, 1) := by decide +kernel
theorem dX6_note_2 : decode cX6_note 2 = .ok (.iload_n 2, 1) := by decide +kernel
theorem dX6_note_3 : decode cX6_note 3 = .ok (.invokevirtual 67, 3) := by decide +kernel
theorem dX6_note_6 : decode cX6_note 6 = .ok (.istore 5, 2) := by decide +kernel
theorem dX6_note_8 : decode cX6_note 8 = .ok (.iload_n 3, 1) := by decide +kernel
theorem dX6_note_9 : decode cX6_note 9 = .ok (.iconst 1, 1) := by decide +kernel
theorem dX6_note_10 : decode cX6_note 10 = .ok (.bipush 32, 2) := by decide +kernel
theorem dX6_note_12 : decode cX6_note 12 = .ok (.invokestatic 48, 3) := by decide +kernel
theorem dX6_note_15 : decode cX6_note 15 = .ok (.iload 4, 2) := by decide +kernel
theorem dX6_note_17 : decode cX6_note 17 = .ok (.iconst 0, 1) := by decide +kernel
theorem dX6_note_18 : decode cX6_note 18 = .ok (.bipush 60, 2) := by decide +kernel
theorem dX6_note_20 : decode cX6_note 20 = .ok (.invokestatic 48, 3) := by decide +kernel
theorem dX6_note_23 : decode cX6_note 23 = .ok (.aload_n 0, 1) := by decide +kernel
theorem dX6_note_24 : decode cX6_note 24 = .ok (.getfield 12, 3) := by decide +kernel
theorem dX6_note_27 : decode cX6_note 27 = .ok (.getfield 71, 3) := by decide +kernel
theorem dX6_note_30 : decode cX6_note 30 = .ok (.iload 5, 2) := by decide +kernel
theorem dX6_note_32 : decode cX6_note 32 = .ok (.iaload, 1) := by decide +kernel
theorem dX6_note_33 : decode cX6_note 33 = .ok (.bipush 8, 2) := by decide +kernel
theorem dX6_note_35 : decode cX6_note 35 = .ok (.if_icmp .lt 13, 3) := by decide +kernel
theorem dX6_note_38 : decode cX6_note 38 = .ok (.new 56, 3) := by decide +kernel
theorem dX6_note_41 : decode cX6_note 41 = .ok (.dup, 1) := by decide +kernel
theorem dX6_note_42 : decode cX6_note 42 = .ok (.ldc 75, 2) := by decide +kernel
theorem dX6_note_44 : decode cX6_note 44 = .ok (.invokespecial 60, 3) := by decide +kernel
theorem dX6_note_47 : decode cX6_note 47 = .ok (.athrow, 1) := by decide +kernel
theorem dX6_note_48 : decode cX6_note 48 = .ok (.aload_n 0, 1) := by decide +kernel
theorem dX6_note_49 : decode cX6_note 49 = .ok (.getfield 12, 3) := by decide +kernel
theorem dX6_note_52 : decode cX6_note 52 = .ok (.iload 5, 2) := by decide +kernel
theorem dX6_note_54 : decode cX6_note 54 = .ok (.invokevirtual 77, 3) := by decide +kernel
theorem dX6_note_57 : decode cX6_note 57 = .ok (.iload_n 3, 1) := by decide +kernel
theorem dX6_note_58 : decode cX6_note 58 = .ok (.iadd, 1) := by decide +kernel
theorem dX6_note_59 : decode cX6_note 59 = .ok (.aload_n 0, 1) := by decide +kernel
theorem dX6_note_60 : decode cX6_note 60 = .ok (.getfield 12, 3) := by decide +kernel
theorem dX6_note_63 : decode cX6_note 63 = .ok (.getfield 80, 3) := by decide +kernel
theorem dX6_note_66 : decode cX6_note 66 = .ok (.iload_n 2, 1) := by decide +kernel
theorem dX6_note_67 : decode cX6_note 67 = .ok (.iaload, 1) := by decide +kernel
theorem dX6_note_68 : decode cX6_note 68 = .ok (.if_icmp .le 13, 3) := by decide +kernel
theorem dX6_note_71 : decode cX6_note 71 = .ok (.new 56, 3) := by decide +kernel
theorem dX6_note_74 : decode cX6_note 74 = .ok (.dup, 1) := by decide +kernel
theorem dX6_note_75 : decode cX6_note 75 = .ok (.ldc 83, 2) := by decide +kernel
theorem dX6_note_77 : decode cX6_note 77 = .ok (.invokespecial 60, 3) := by decide +kernel
theorem dX6_note_80 : decode cX6_note 80 = .ok (.athrow, 1) := by decide +kernel
theorem dX6_note_81 : decode cX6_note 81 = .ok (.aload_n 0, 1) := by decide +kernel
theorem dX6_note_82 : decode cX6_note 82 = .ok (.getfield 12, 3) := by decide +kernel
theorem dX6_note_85 : decode cX6_note 85 = .ok (.iload 5, 2) := by decide +kernel
theorem dX6_note_87 : decode cX6_note 87 = .ok (.iload_n 3, 1) := by decide +kernel
theorem dX6_note_88 : decode cX6_note 88 = .ok (.iload 4, 2) := by decide +kernel
theorem dX6_note_90 : decode cX6_note 90 = .ok (.invokevirtual 85, 3) := by decide +kernel
theorem dX6_note_93 : decode cX6_note 93 = .ok (.ireturn, 1) := by decide +kernel
theorem dX6_mend_0 : decode cX6_mend 0 = .ok (.aload_n 0, 1) := by decide +kernel
theorem dX6_mend_1 : decode cX6_mend 1 = .ok (.iload_n 1, 1) := by decide +kernel
theorem dX6_mend_2 : decode cX6_mend 2 = .ok (.iload_n 2, 1) := by decide +kernel
theorem dX6_mend_3 : decode cX6_mend 3 = .ok (.invokevirtual 67, 3) := by decide +kernel
theorem dX6_mend_6 : decode cX6_mend 6 = .ok (.istore 5, 2) := by decide +kernel
theorem dX6_mend_8 : decode cX6_mend 8 = .ok (.iload_n 3, 1) := by decide +kernel
theorem dX6_mend_9 : decode cX6_mend 9 = .ok (.aload_n 0, 1) := by decide +kernel
theorem dX6_mend_10 : decode cX6_mend 10 = .ok (.getfield 12, 3) := by decide +kernel
theorem dX6_mend_13 : decode cX6_mend 13 = .ok (.getfield 71, 3) := by decide +kernel
theorem dX6_mend_16 : decode cX6_mend 16 = .ok (.iload 5, 2) := by decide +kernel
theorem dX6_mend_18 : decode cX6_mend 18 = .ok (.iaload, 1) := by decide +kernel
theorem dX6_mend_19 : decode cX6_mend 19 = .ok (.invokestatic 89, 3) := by decide +kernel
theorem dX6_mend_22 : decode cX6_mend 22 = .ok (.iload 4, 2) := by decide +kernel
theorem dX6_mend_24 : decode cX6_mend 24 = .ok (.iconst 0, 1) := by decide +kernel
theorem dX6_mend_25 : decode cX6_mend 25 = .ok (.bipush 60, 2) := by decide +kernel
theorem dX6_mend_27 : decode cX6_mend 27 = .ok (.invokestatic 48, 3) := by decide +kernel
theorem dX6_mend_30 : decode cX6_mend 30 = .ok (.aload_n 0, 1) := by decide +kernel
theorem dX6_mend_31 : decode cX6_mend 31 = .ok (.getfield 12, 3) := by decide +kernel
theorem dX6_mend_34 : decode cX6_mend 34 = .ok (.iload 5, 2) := by decide +kernel
theorem dX6_mend_36 : decode cX6_mend 36 = .ok (.iload_n 3, 1) := by decide +kernel
theorem dX6_mend_37 : decode cX6_mend 37 = .ok (.iload 4, 2) := by decide +kernel
theorem dX6_mend_39 : decode cX6_mend 39 = .ok (.invokevirtual 93, 3) := by decide +kernel
theorem dX6_mend_42 : decode cX6_mend 42 = .ok (.ireturn, 1) := by decide +kernel
theorem dX6_empty_0 : decode cX6_empty 0 = .ok (.aload_n 0, 1) := by decide +kernel
theorem dX6_empty_1 : decode cX6_empty 1 = .ok (.getfield 12, 3) := by decide +kernel
theorem dX6_empty_4 : decode cX6_empty 4 = .ok (.aload_n 0, 1) := by decide +kernel
theorem dX6_empty_5 : decode cX6_empty 5 = .ok (.iload_n 1, 1) := by decide +kernel
theorem dX6_empty_6 : decode cX6_empty 6 = .ok (.iload_n 2, 1) := by decide +kernel
theorem dX6_empty_7 : decode cX6_empty 7 = .ok (.invokevirtual 67, 3) := by decide +kernel
theorem dX6_empty_10 : decode cX6_empty 10 = .ok (.invokevirtual 96, 3) := by decide +kernel
theorem dX6_empty_13 : decode cX6_empty 13 = .ok (.ireturn, 1) := by decide +kernel
theorem dX6_setPaper_0 : decode cX6_setPaper 0 = .ok (.iload_n 1, 1) := by decide +kernel
theorem dX6_setPaper_1 : decode cX6_setPaper 1 = .ok (.bipush 80, 2) := by decide +kernel
theorem dX6_setPaper_3 : decode cX6_setPaper 3 = .ok (.sipush 500, 3) := by decide +kernel
theorem dX6_setPaper_6 : decode cX6_setPaper 6 = .ok (.invokestatic 48, 3) := by decide +kernel
theorem dX6_setPaper_9 : decode cX6_setPaper 9 = .ok (.iload_n 2, 1) := by decide +kernel
theorem dX6_setPaper_10 : decode cX6_setPaper 10 = .ok (.iconst 1, 1) := by decide +kernel
theorem dX6_setPaper_11 : decode cX6_setPaper 11 = .ok (.bipush 6, 2) := by decide +kernel
theorem dX6_setPaper_13 : decode cX6_setPaper 13 = .ok (.invokestatic 48, 3) := by decide +kernel
theorem dX6_setPaper_16 : decode cX6_setPaper 16 = .ok (.aload_n 0, 1) := by decide +kernel
theorem dX6_setPaper_17 : decode cX6_setPaper 17 = .ok (.getfield 30, 3) := by decide +kernel
theorem dX6_setPaper_20 : decode cX6_setPaper 20 = .ok (.getfield 99, 3) := by decide +kernel
theorem dX6_setPaper_23 : decode cX6_setPaper 23 = .ok (.istore_n 3, 1) := by decide +kernel
theorem dX6_setPaper_24 : decode cX6_setPaper 24 = .ok (.aload_n 0, 1) := by decide +kernel
theorem dX6_setPaper_25 : decode cX6_setPaper 25 = .ok (.getfield 30, 3) := by decide +kernel
theorem dX6_setPaper_28 : decode cX6_setPaper 28 = .ok (.iload_n 1, 1) := by decide +kernel
theorem dX6_setPaper_29 : decode cX6_setPaper 29 = .ok (.putfield 99, 3) := by decide +kernel
theorem dX6_setPaper_32 : decode cX6_setPaper 32 = .ok (.aload_n 0, 1) := by decide +kernel
theorem dX6_setPaper_33 : decode cX6_setPaper 33 = .ok (.getfield 30, 3) := by decide +kernel
theorem dX6_setPaper_36 : decode cX6_setPaper 36 = .ok (.iload_n 2, 1) := by decide +kernel
theorem dX6_setPaper_37 : decode cX6_setPaper 37 = .ok (.putfield 102, 3) := by decide +kernel
theorem dX6_setPaper_40 : decode cX6_setPaper 40 = .ok (.iload_n 3, 1) := by decide +kernel
theorem dX6_setPaper_41 : decode cX6_setPaper 41 = .ok (.ireturn, 1) := by decide +kernel
theorem dX6_copy_0 : decode cX6_copy 0 = .ok (.iload_n 1, 1) := by decide +kernel
theorem dX6_copy_1 : decode cX6_copy 1 = .ok (.iconst 5, 1) := by decide +kernel
theorem dX6_copy_2 : decode cX6_copy 2 = .ok (.invokestatic 89, 3) := by decide +kernel
theorem dX6_copy_5 : decode cX6_copy 5 = .ok (.aload_n 0, 1) := by decide +kernel
theorem dX6_copy_6 : decode cX6_copy 6 = .ok (.getfield 105, 3) := by decide +kernel
theorem dX6_copy_9 : decode cX6_copy 9 = .ok (.bipush 16, 2) := by decide +kernel
theorem dX6_copy_11 : decode cX6_copy 11 = .ok (.if_icmp .lt 13, 3) := by decide +kernel
theorem dX6_copy_14 : decode cX6_copy 14 = .ok (.new 56, 3) := by decide +kernel
theorem dX6_copy_17 : decode cX6_copy 17 = .ok (.dup, 1) := by decide +kernel
theorem dX6_copy_18 : decode cX6_copy 18 = .ok (.ldc 108, 2) := by decide +kernel
theorem dX6_copy_20 : decode cX6_copy 20 = .ok (.invokespecial 60, 3) := by decide +kernel
theorem dX6_copy_23 : decode cX6_copy 23 = .ok (.athrow, 1) := by decide +kernel
theorem dX6_copy_24 : decode cX6_copy 24 = .ok (.aload_n 0, 1) := by decide +kernel
theorem dX6_copy_25 : decode cX6_copy 25 = .ok (.getfield 36, 3) := by decide +kernel
theorem dX6_copy_28 : decode cX6_copy 28 = .ok (.aload_n 0, 1) := by decide +kernel
theorem dX6_copy_29 : decode cX6_copy 29 = .ok (.getfield 105, 3) := by decide +kernel
theorem dX6_copy_32 : decode cX6_copy 32 = .ok (.aaload, 1) := by decide +kernel
theorem dX6_copy_33 : decode cX6_copy 33 = .ok (.iload_n 1, 1) := by decide +kernel
theorem dX6_copy_34 : decode cX6_copy 34 = .ok (.putfield 110, 3) := by decide +kernel
theorem dX6_copy_37 : decode cX6_copy 37 = .ok (.aload_n 0, 1) := by decide +kernel
theorem dX6_copy_38 : decode cX6_copy 38 = .ok (.dup, 1) := by decide +kernel
theorem dX6_copy_39 : decode cX6_copy 39 = .ok (.getfield 105, 3) := by decide +kernel
theorem dX6_copy_42 : decode cX6_copy 42 = .ok (.iconst 1, 1) := by decide +kernel
theorem dX6_copy_43 : decode cX6_copy 43 = .ok (.iadd, 1) := by decide +kernel
theorem dX6_copy_44 : decode cX6_copy 44 = .ok (.putfield 105, 3) := by decide +kernel
theorem dX6_copy_47 : decode cX6_copy 47 = .ok (.aload_n 0, 1) := by decide +kernel
theorem dX6_copy_48 : decode cX6_copy 48 = .ok (.getfield 105, 3) := by decide +kernel
theorem dX6_copy_51 : decode cX6_copy 51 = .ok (.iconst 1, 1) := by decide +kernel
theorem dX6_copy_52 : decode cX6_copy 52 = .ok (.isub, 1) := by decide +kernel
theorem dX6_copy_53 : decode cX6_copy 53 = .ok (.ireturn, 1) := by decide +kernel
theorem dX6_lend_0 : decode cX6_lend 0 = .ok (.iload_n 1, 1) := by decide +kernel
theorem dX6_lend_1 : decode cX6_lend 1 = .ok (.aload_n 0, 1) := by decide +kernel
theorem dX6_lend_2 : decode cX6_lend 2 = .ok (.getfield 105, 3) := by decide +kernel
theorem dX6_lend_5 : decode cX6_lend 5 = .ok (.invokestatic 89, 3) := by decide +kernel
theorem dX6_lend_8 : decode cX6_lend 8 = .ok (.iload_n 2, 1) := by decide +kernel
theorem dX6_lend_9 : decode cX6_lend 9 = .ok (.bipush 6, 2) := by decide +kernel
theorem dX6_lend_11 : decode cX6_lend 11 = .ok (.invokestatic 89, 3) := by decide +kernel
theorem dX6_lend_14 : decode cX6_lend 14 = .ok (.aload_n 0, 1) := by decide +kernel
theorem dX6_lend_15 : decode cX6_lend 15 = .ok (.getfield 36, 3) := by decide +kernel
theorem dX6_lend_18 : decode cX6_lend 18 = .ok (.iload_n 1, 1) := by decide +kernel
theorem dX6_lend_19 : decode cX6_lend 19 = .ok (.aaload, 1) := by decide +kernel
theorem dX6_lend_20 : decode cX6_lend 20 = .ok (.astore_n 3, 1) := by decide +kernel
theorem dX6_lend_21 : decode cX6_lend 21 = .ok (.aload_n 3, 1) := by decide +kernel
theorem dX6_lend_22 : decode cX6_lend 22 = .ok (.invokevirtual 113, 3) := by decide +kernel
theorem dX6_lend_25 : decode cX6_lend 25 = .ok (.ifCond .eq 13, 3) := by decide +kernel
theorem dX6_lend_28 : decode cX6_lend 28 = .ok (.new 56, 3) := by decide +kernel
theorem dX6_lend_31 : decode cX6_lend 31 = .ok (.dup, 1) := by decide +kernel
theorem dX6_lend_32 : decode cX6_lend 32 = .ok (.ldc 117, 2) := by decide +kernel
theorem dX6_lend_34 : decode cX6_lend 34 = .ok (.invokespecial 60, 3) := by decide +kernel
theorem dX6_lend_37 : decode cX6_lend 37 = .ok (.athrow, 1) := by decide +kernel
theorem dX6_lend_38 : decode cX6_lend 38 = .ok (.aload_n 0, 1) := by decide +kernel
theorem dX6_lend_39 : decode cX6_lend 39 = .ok (.iload_n 2, 1) := by decide +kernel
theorem dX6_lend_40 : decode cX6_lend 40 = .ok (.aload_n 3, 1) := by decide +kernel
theorem dX6_lend_41 : decode cX6_lend 41 = .ok (.getfield 110, 3) := by decide +kernel
theorem dX6_lend_44 : decode cX6_lend 44 = .ok (.invokevirtual 119, 3) := by decide +kernel
theorem dX6_lend_47 : decode cX6_lend 47 = .ok (.ifCond .eq 13, 3) := by decide +kernel
theorem dX6_lend_50 : decode cX6_lend 50 = .ok (.new 56, 3) := by decide +kernel
theorem dX6_lend_53 : decode cX6_lend 53 = .ok (.dup, 1) := by decide +kernel
theorem dX6_lend_54 : decode cX6_lend 54 = .ok (.ldc 123, 2) := by decide +kernel
theorem dX6_lend_56 : decode cX6_lend 56 = .ok (.invokespecial 60, 3) := by decide +kernel
theorem dX6_lend_59 : decode cX6_lend 59 = .ok (.athrow, 1) := by decide +kernel
theorem dX6_lend_60 : decode cX6_lend 60 = .ok (.aload_n 3, 1) := by decide +kernel
theorem dX6_lend_61 : decode cX6_lend 61 = .ok (.iload_n 2, 1) := by decide +kernel
theorem dX6_lend_62 : decode cX6_lend 62 = .ok (.putfield 125, 3) := by decide +kernel
theorem dX6_lend_65 : decode cX6_lend 65 = .ok (.aload_n 3, 1) := by decide +kernel
theorem dX6_lend_66 : decode cX6_lend 66 = .ok (.invokevirtual 128, 3) := by decide +kernel
theorem dX6_lend_69 : decode cX6_lend 69 = .ok (.aload_n 0, 1) := by decide +kernel
theorem dX6_lend_70 : decode cX6_lend 70 = .ok (.invokevirtual 131, 3) := by decide +kernel
theorem dX6_lend_73 : decode cX6_lend 73 = .ok (.ireturn, 1) := by decide +kernel
theorem dX6_giveBack_0 : decode cX6_giveBack 0 = .ok (.aload_n 0, 1) := by decide +kernel
theorem dX6_giveBack_1 : decode cX6_giveBack 1 = .ok (.iload_n 1, 1) := by decide +kernel
theorem dX6_giveBack_2 : decode cX6_giveBack 2 = .ok (.invokevirtual 135, 3) := by decide +kernel
theorem dX6_giveBack_5 : decode cX6_giveBack 5 = .ok (.astore_n 2, 1) := by decide +kernel
theorem dX6_giveBack_6 : decode cX6_giveBack 6 = .ok (.aload_n 2, 1) := by decide +kernel
theorem dX6_giveBack_7 : decode cX6_giveBack 7 = .ok (.invokevirtual 139, 3) := by decide +kernel
theorem dX6_giveBack_10 : decode cX6_giveBack 10 = .ok (.istore_n 3, 1) := by decide +kernel
theorem dX6_giveBack_11 : decode cX6_giveBack 11 = .ok (.aload_n 2, 1) := by decide +kernel
theorem dX6_giveBack_12 : decode cX6_giveBack 12 = .ok (.iconst (-1), 1) := by decide +kernel
theorem dX6_giveBack_13 : decode cX6_giveBack 13 = .ok (.putfield 125, 3) := by decide +kernel
theorem dX6_giveBack_16 : decode cX6_giveBack 16 = .ok (.iload_n 3, 1) := by decide +kernel
theorem dX6_giveBack_17 : decode cX6_giveBack 17 = .ok (.ireturn, 1) := by decide +kernel
theorem dX6_paste_0 : decode cX6_paste 0 = .ok (.aload_n 0, 1) := by decide +kernel
theorem dX6_paste_1 : decode cX6_paste 1 = .ok (.iload_n 1, 1) := by decide +kernel
theorem dX6_paste_2 : decode cX6_paste 2 = .ok (.invokevirtual 135, 3) := by decide +kernel
theorem dX6_paste_5 : decode cX6_paste 5 = .ok (.astore_n 2, 1) := by decide +kernel
theorem dX6_paste_6 : decode cX6_paste 6 = .ok (.aload_n 2, 1) := by decide +kernel
theorem dX6_paste_7 : decode cX6_paste 7 = .ok (.invokevirtual 139, 3) := by decide +kernel
theorem dX6_paste_10 : decode cX6_paste 10 = .ok (.istore_n 3, 1) := by decide +kernel
theorem dX6_paste_11 : decode cX6_paste 11 = .ok (.aload_n 2, 1) := by decide +kernel
theorem dX6_paste_12 : decode cX6_paste 12 = .ok (.invokevirtual 128, 3) := by decide +kernel
theorem dX6_paste_15 : decode cX6_paste 15 = .ok (.iload_n 3, 1) := by decide +kernel
theorem dX6_paste_16 : decode cX6_paste 16 = .ok (.ireturn, 1) := by decide +kernel
theorem dX6_mark_0 : decode cX6_mark 0 = .ok (.iload_n 1, 1) := by decide +kernel
theorem dX6_mark_1 : decode cX6_mark 1 = .ok (.aload_n 0, 1) := by decide +kernel
theorem dX6_mark_2 : decode cX6_mark 2 = .ok (.getfield 105, 3) := by decide +kernel
theorem dX6_mark_5 : decode cX6_mark 5 = .ok (.invokestatic 89, 3) := by decide +kernel
theorem dX6_mark_8 : decode cX6_mark 8 = .ok (.iload_n 2, 1) := by decide +kernel
theorem dX6_mark_9 : decode cX6_mark 9 = .ok (.aload_n 0, 1) := by decide +kernel
theorem dX6_mark_10 : decode cX6_mark 10 = .ok (.getfield 12, 3) := by decide +kernel
theorem dX6_mark_13 : decode cX6_mark 13 = .ok (.getfield 52, 3) := by decide +kernel
theorem dX6_mark_16 : decode cX6_mark 16 = .ok (.invokestatic 89, 3) := by decide +kernel
theorem dX6_mark_19 : decode cX6_mark 19 = .ok (.iload_n 3, 1) := by decide +kernel
theorem dX6_mark_20 : decode cX6_mark 20 = .ok (.iconst 0, 1) := by decide +kernel
theorem dX6_mark_21 : decode cX6_mark 21 = .ok (.bipush 9, 2) := by decide +kernel
theorem dX6_mark_23 : decode cX6_mark 23 = .ok (.invokestatic 48, 3) := by decide +kernel
theorem dX6_mark_26 : decode cX6_mark 26 = .ok (.aload_n 0, 1) := by decide +kernel
theorem dX6_mark_27 : decode cX6_mark 27 = .ok (.iload_n 1, 1) := by decide +kernel
theorem dX6_mark_28 : decode cX6_mark 28 = .ok (.invokevirtual 135, 3) := by decide +kernel
theorem dX6_mark_31 : decode cX6_mark 31 = .ok (.astore 4, 2) := by decide +kernel
theorem dX6_mark_33 : decode cX6_mark 33 = .ok (.aload 4, 2) := by decide +kernel
theorem dX6_mark_35 : decode cX6_mark 35 = .ok (.iload_n 2, 1) := by decide +kernel
theorem dX6_mark_36 : decode cX6_mark 36 = .ok (.invokevirtual 142, 3) := by decide +kernel
theorem dX6_mark_39 : decode cX6_mark 39 = .ok (.ifCond .eq 13, 3) := by decide +kernel
theorem dX6_mark_42 : decode cX6_mark 42 = .ok (.new 56, 3) := by decide +kernel
theorem dX6_mark_45 : decode cX6_mark 45 = .ok (.dup, 1) := by decide +kernel
theorem dX6_mark_46 : decode cX6_mark 46 = .ok (.ldc 146, 2) := by decide +kernel
theorem dX6_mark_48 : decode cX6_mark 48 = .ok (.invokespecial 60, 3) := by decide +kernel
theorem dX6_mark_51 : decode cX6_mark 51 = .ok (.athrow, 1) := by decide +kernel
theorem dX6_mark_52 : decode cX6_mark 52 = .ok (.aload 4, 2) := by decide +kernel
theorem dX6_mark_54 : decode cX6_mark 54 = .ok (.getfield 110, 3) := by decide +kernel
theorem dX6_mark_57 : decode cX6_mark 57 = .ok (.iload_n 2, 1) := by decide +kernel
theorem dX6_mark_58 : decode cX6_mark 58 = .ok (.invokestatic 148, 3) := by decide +kernel
theorem dX6_mark_61 : decode cX6_mark 61 = .ok (.istore 5, 2) := by decide +kernel
theorem dX6_mark_63 : decode cX6_mark 63 = .ok (.aload_n 0, 1) := by decide +kernel
theorem dX6_mark_64 : decode cX6_mark 64 = .ok (.getfield 43, 3) := by decide +kernel
theorem dX6_mark_67 : decode cX6_mark 67 = .ok (.aload 4, 2) := by decide +kernel
theorem dX6_mark_69 : decode cX6_mark 69 = .ok (.getfield 125, 3) := by decide +kernel
theorem dX6_mark_72 : decode cX6_mark 72 = .ok (.aaload, 1) := by decide +kernel
theorem dX6_mark_73 : decode cX6_mark 73 = .ok (.iload 5, 2) := by decide +kernel
theorem dX6_mark_75 : decode cX6_mark 75 = .ok (.iload_n 3, 1) := by decide +kernel
theorem dX6_mark_76 : decode cX6_mark 76 = .ok (.aload 4, 2) := by decide +kernel
theorem dX6_mark_78 : decode cX6_mark 78 = .ok (.iload_n 2, 1) := by decide +kernel
theorem dX6_mark_79 : decode cX6_mark 79 = .ok (.invokevirtual 151, 3) := by decide +kernel
theorem dX6_mark_82 : decode cX6_mark 82 = .ok (.invokevirtual 154, 3) := by decide +kernel
theorem dX6_mark_85 : decode cX6_mark 85 = .ok (.ireturn, 1) := by decide +kernel
theorem dX6_bow_0 : decode cX6_bow 0 = .ok (.iload_n 1, 1) := by decide +kernel
theorem dX6_bow_1 : decode cX6_bow 1 = .ok (.aload_n 0, 1) := by decide +kernel
theorem dX6_bow_2 : decode cX6_bow 2 = .ok (.getfield 105, 3) := by decide +kernel
theorem dX6_bow_5 : decode cX6_bow 5 = .ok (.invokestatic 89, 3) := by decide +kernel
theorem dX6_bow_8 : decode cX6_bow 8 = .ok (.aload_n 0, 1) := by decide +kernel
theorem dX6_bow_9 : decode cX6_bow 9 = .ok (.aload_n 0, 1) := by decide +kernel
theorem dX6_bow_10 : decode cX6_bow 10 = .ok (.getfield 36, 3) := by decide +kernel
theorem dX6_bow_13 : decode cX6_bow 13 = .ok (.iload_n 1, 1) := by decide +kernel
theorem dX6_bow_14 : decode cX6_bow 14 = .ok (.aaload, 1) := by decide +kernel
theorem dX6_bow_15 : decode cX6_bow 15 = .ok (.getfield 110, 3) := by decide +kernel
theorem dX6_bow_18 : decode cX6_bow 18 = .ok (.iload_n 2, 1) := by decide +kernel
theorem dX6_bow_19 : decode cX6_bow 19 = .ok (.invokevirtual 67, 3) := by decide +kernel
theorem dX6_bow_22 : decode cX6_bow 22 = .ok (.istore 5, 2) := by decide +kernel
theorem dX6_bow_24 : decode cX6_bow 24 = .ok (.iload_n 3, 1) := by decide +kernel
theorem dX6_bow_25 : decode cX6_bow 25 = .ok (.aload_n 0, 1) := by decide +kernel
theorem dX6_bow_26 : decode cX6_bow 26 = .ok (.getfield 12, 3) := by decide +kernel
theorem dX6_bow_29 : decode cX6_bow 29 = .ok (.getfield 71, 3) := by decide +kernel
theorem dX6_bow_32 : decode cX6_bow 32 = .ok (.iload 5, 2) := by decide +kernel
theorem dX6_bow_34 : decode cX6_bow 34 = .ok (.iaload, 1) := by decide +kernel
theorem dX6_bow_35 : decode cX6_bow 35 = .ok (.invokestatic 89, 3) := by decide +kernel
theorem dX6_bow_38 : decode cX6_bow 38 = .ok (.iload 4, 2) := by decide +kernel
theorem dX6_bow_40 : decode cX6_bow 40 = .ok (.iconst 0, 1) := by decide +kernel
theorem dX6_bow_41 : decode cX6_bow 41 = .ok (.iconst 2, 1) := by decide +kernel
theorem dX6_bow_42 : decode cX6_bow 42 = .ok (.invokestatic 48, 3) := by decide +kernel
theorem dX6_bow_45 : decode cX6_bow 45 = .ok (.aload_n 0, 1) := by decide +kernel
theorem dX6_bow_46 : decode cX6_bow 46 = .ok (.iload_n 1, 1) := by decide +kernel
theorem dX6_bow_47 : decode cX6_bow 47 = .ok (.invokevirtual 135, 3) := by decide +kernel
theorem dX6_bow_50 : decode cX6_bow 50 = .ok (.astore 6, 2) := by decide +kernel
theorem dX6_bow_52 : decode cX6_bow 52 = .ok (.aload 6, 2) := by decide +kernel
theorem dX6_bow_54 : decode cX6_bow 54 = .ok (.iload_n 2, 1) := by decide +kernel
theorem dX6_bow_55 : decode cX6_bow 55 = .ok (.invokevirtual 157, 3) := by decide +kernel
theorem dX6_bow_58 : decode cX6_bow 58 = .ok (.ifCond .eq 13, 3) := by decide +kernel
theorem dX6_bow_61 : decode cX6_bow 61 = .ok (.new 56, 3) := by decide +kernel
theorem dX6_bow_64 : decode cX6_bow 64 = .ok (.dup, 1) := by decide +kernel
theorem dX6_bow_65 : decode cX6_bow 65 = .ok (.ldc 160, 2) := by decide +kernel
theorem dX6_bow_67 : decode cX6_bow 67 = .ok (.invokespecial 60, 3) := by decide +kernel
theorem dX6_bow_70 : decode cX6_bow 70 = .ok (.athrow, 1) := by decide +kernel
theorem dX6_bow_71 : decode cX6_bow 71 = .ok (.aload_n 0, 1) := by decide +kernel
theorem dX6_bow_72 : decode cX6_bow 72 = .ok (.getfield 43, 3) := by decide +kernel
theorem dX6_bow_75 : decode cX6_bow 75 = .ok (.aload 6, 2) := by decide +kernel
theorem dX6_bow_77 : decode cX6_bow 77 = .ok (.getfield 125, 3) := by decide +kernel
theorem dX6_bow_80 : decode cX6_bow 80 = .ok (.aaload, 1) := by decide +kernel
theorem dX6_bow_81 : decode cX6_bow 81 = .ok (.iload 5, 2) := by decide +kernel
theorem dX6_bow_83 : decode cX6_bow 83 = .ok (.iload_n 3, 1) := by decide +kernel
theorem dX6_bow_84 : decode cX6_bow 84 = .ok (.iload 4, 2) := by decide +kernel
theorem dX6_bow_86 : decode cX6_bow 86 = .ok (.aload_n 0, 1) := by decide +kernel
theorem dX6_bow_87 : decode cX6_bow 87 = .ok (.getfield 12, 3) := by decide +kernel
theorem dX6_bow_90 : decode cX6_bow 90 = .ok (.getfield 162, 3) := by decide +kernel
theorem dX6_bow_93 : decode cX6_bow 93 = .ok (.iload 5, 2) := by decide +kernel
theorem dX6_bow_95 : decode cX6_bow 95 = .ok (.iaload, 1) := by decide +kernel
theorem dX6_bow_96 : decode cX6_bow 96 = .ok (.invokevirtual 165, 3) := by decide +kernel
theorem dX6_bow_99 : decode cX6_bow 99 = .ok (.ireturn, 1) := by decide +kernel
theorem dX6_play_0 : decode cX6_play 0 = .ok (.aload_n 0, 1) := by decide +kernel
theorem dX6_play_1 : decode cX6_play 1 = .ok (.invokevirtual 131, 3) := by decide +kernel
theorem dX6_play_4 : decode cX6_play 4 = .ok (.istore_n 1, 1) := by decide +kernel
theorem dX6_play_5 : decode cX6_play 5 = .ok (.iload_n 1, 1) := by decide +kernel
theorem dX6_play_6 : decode cX6_play 6 = .ok (.ifCond .ne 13, 3) := by decide +kernel
theorem dX6_play_9 : decode cX6_play 9 = .ok (.new 56, 3) := by decide +kernel
theorem dX6_play_12 : decode cX6_play 12 = .ok (.dup, 1) := by decide +kernel
theorem dX6_play_13 : decode cX6_play 13 = .ok (.ldc 169, 2) := by decide +kernel
theorem dX6_play_15 : decode cX6_play 15 = .ok (.invokespecial 60, 3) := by decide +kernel
theorem dX6_play_18 : decode cX6_play 18 = .ok (.athrow, 1) := by decide +kernel
theorem dX6_play_19 : decode cX6_play 19 = .ok (.aload_n 0, 1) := by decide +kernel
theorem dX6_play_20 : decode cX6_play 20 = .ok (.invokevirtual 171, 3) := by decide +kernel
theorem dX6_play_23 : decode cX6_play 23 = .ok (.ifCond .eq 13, 3) := by decide +kernel
theorem dX6_play_26 : decode cX6_play 26 = .ok (.new 56, 3) := by decide +kernel
theorem dX6_play_29 : decode cX6_play 29 = .ok (.dup, 1) := by decide +kernel
theorem dX6_play_30 : decode cX6_play 30 = .ok (.ldc 174, 2) := by decide +kernel
theorem dX6_play_32 : decode cX6_play 32 = .ok (.invokespecial 60, 3) := by decide +kernel
theorem dX6_play_35 : decode cX6_play 35 = .ok (.athrow, 1) := by decide +kernel
theorem dX6_play_36 : decode cX6_play 36 = .ok (.aload_n 0, 1) := by decide +kernel
theorem dX6_play_37 : decode cX6_play 37 = .ok (.dup, 1) := by decide +kernel
theorem dX6_play_38 : decode cX6_play 38 = .ok (.getfield 176, 3) := by decide +kernel
theorem dX6_play_41 : decode cX6_play 41 = .ok (.iconst 1, 1) := by decide +kernel
theorem dX6_play_42 : decode cX6_play 42 = .ok (.iadd, 1) := by decide +kernel
theorem dX6_play_43 : decode cX6_play 43 = .ok (.putfield 176, 3) := by decide +kernel
theorem dX6_play_46 : decode cX6_play 46 = .ok (.iload_n 1, 1) := by decide +kernel
theorem dX6_play_47 : decode cX6_play 47 = .ok (.ireturn, 1) := by decide +kernel
theorem dX6_bars_0 : decode cX6_bars 0 = .ok (.aload_n 0, 1) := by decide +kernel
theorem dX6_bars_1 : decode cX6_bars 1 = .ok (.getfield 12, 3) := by decide +kernel
theorem dX6_bars_4 : decode cX6_bars 4 = .ok (.getfield 52, 3) := by decide +kernel
theorem dX6_bars_7 : decode cX6_bars 7 = .ok (.ireturn, 1) := by decide +kernel
theorem dX6_notes_0 : decode cX6_notes 0 = .ok (.aload_n 0, 1) := by decide +kernel
theorem dX6_notes_1 : decode cX6_notes 1 = .ok (.getfield 12, 3) := by decide +kernel
theorem dX6_notes_4 : decode cX6_notes 4 = .ok (.getfield 71, 3) := by decide +kernel
theorem dX6_notes_7 : decode cX6_notes 7 = .ok (.aload_n 0, 1) := by decide +kernel
theorem dX6_notes_8 : decode cX6_notes 8 = .ok (.iload_n 1, 1) := by decide +kernel
theorem dX6_notes_9 : decode cX6_notes 9 = .ok (.iload_n 2, 1) := by decide +kernel
theorem dX6_notes_10 : decode cX6_notes 10 = .ok (.invokevirtual 67, 3) := by decide +kernel
theorem dX6_notes_13 : decode cX6_notes 13 = .ok (.iaload, 1) := by decide +kernel
theorem dX6_notes_14 : decode cX6_notes 14 = .ok (.ireturn, 1) := by decide +kernel
theorem dX6_noteAt_0 : decode cX6_noteAt 0 = .ok (.aload_n 0, 1) := by decide +kernel
theorem dX6_noteAt_1 : decode cX6_noteAt 1 = .ok (.iload_n 1, 1) := by decide +kernel
theorem dX6_noteAt_2 : decode cX6_noteAt 2 = .ok (.iload_n 2, 1) := by decide +kernel
theorem dX6_noteAt_3 : decode cX6_noteAt 3 = .ok (.invokevirtual 67, 3) := by decide +kernel
theorem dX6_noteAt_6 : decode cX6_noteAt 6 = .ok (.istore 4, 2) := by decide +kernel
theorem dX6_noteAt_8 : decode cX6_noteAt 8 = .ok (.iload_n 3, 1) := by decide +kernel
theorem dX6_noteAt_9 : decode cX6_noteAt 9 = .ok (.aload_n 0, 1) := by decide +kernel
theorem dX6_noteAt_10 : decode cX6_noteAt 10 = .ok (.getfield 12, 3) := by decide +kernel
theorem dX6_noteAt_13 : decode cX6_noteAt 13 = .ok (.getfield 71, 3) := by decide +kernel
theorem dX6_noteAt_16 : decode cX6_noteAt 16 = .ok (.iload 4, 2) := by decide +kernel
theorem dX6_noteAt_18 : decode cX6_noteAt 18 = .ok (.iaload, 1) := by decide +kernel
theorem dX6_noteAt_19 : decode cX6_noteAt 19 = .ok (.invokestatic 89, 3) := by decide +kernel
theorem dX6_noteAt_22 : decode cX6_noteAt 22 = .ok (.bipush 100, 2) := by decide +kernel
theorem dX6_noteAt_24 : decode cX6_noteAt 24 = .ok (.aload_n 0, 1) := by decide +kernel
theorem dX6_noteAt_25 : decode cX6_noteAt 25 = .ok (.getfield 12, 3) := by decide +kernel
theorem dX6_noteAt_28 : decode cX6_noteAt 28 = .ok (.iload 4, 2) := by decide +kernel
theorem dX6_noteAt_30 : decode cX6_noteAt 30 = .ok (.iload_n 3, 1) := by decide +kernel
theorem dX6_noteAt_31 : decode cX6_noteAt 31 = .ok (.invokevirtual 179, 3) := by decide +kernel
theorem dX6_noteAt_34 : decode cX6_noteAt 34 = .ok (.imul, 1) := by decide +kernel
theorem dX6_noteAt_35 : decode cX6_noteAt 35 = .ok (.aload_n 0, 1) := by decide +kernel
theorem dX6_noteAt_36 : decode cX6_noteAt 36 = .ok (.getfield 12, 3) := by decide +kernel
theorem dX6_noteAt_39 : decode cX6_noteAt 39 = .ok (.iload 4, 2) := by decide +kernel
theorem dX6_noteAt_41 : decode cX6_noteAt 41 = .ok (.iload_n 3, 1) := by decide +kernel
theorem dX6_noteAt_42 : decode cX6_noteAt 42 = .ok (.invokevirtual 182, 3) := by decide +kernel
theorem dX6_noteAt_45 : decode cX6_noteAt 45 = .ok (.iadd, 1) := by decide +kernel
theorem dX6_noteAt_46 : decode cX6_noteAt 46 = .ok (.ireturn, 1) := by decide +kernel
theorem dX6_version_0 : decode cX6_version 0 = .ok (.aload_n 0, 1) := by decide +kernel
theorem dX6_version_1 : decode cX6_version 1 = .ok (.getfield 12, 3) := by decide +kernel
theorem dX6_version_4 : decode cX6_version 4 = .ok (.getfield 162, 3) := by decide +kernel
theorem dX6_version_7 : decode cX6_version 7 = .ok (.aload_n 0, 1) := by decide +kernel
theorem dX6_version_8 : decode cX6_version 8 = .ok (.iload_n 1, 1) := by decide +kernel
theorem dX6_version_9 : decode cX6_version 9 = .ok (.iload_n 2, 1) := by decide +kernel
theorem dX6_version_10 : decode cX6_version 10 = .ok (.invokevirtual 67, 3) := by decide +kernel
theorem dX6_version_13 : decode cX6_version 13 = .ok (.iaload, 1) := by decide +kernel
theorem dX6_version_14 : decode cX6_version 14 = .ok (.ireturn, 1) := by decide +kernel
theorem dX6_time_0 : decode cX6_time 0 = .ok (.iload_n 1, 1) := by decide +kernel
theorem dX6_time_1 : decode cX6_time 1 = .ok (.aload_n 0, 1) := by decide +kernel
theorem dX6_time_2 : decode cX6_time 2 = .ok (.getfield 12, 3) := by decide +kernel
theorem dX6_time_5 : decode cX6_time 5 = .ok (.getfield 52, 3) := by decide +kernel
theorem dX6_time_8 : decode cX6_time 8 = .ok (.iconst 1, 1) := by decide +kernel
theorem dX6_time_9 : decode cX6_time 9 = .ok (.iadd, 1) := by decide +kernel
theorem dX6_time_10 : decode cX6_time 10 = .ok (.invokestatic 89, 3) := by decide +kernel
theorem dX6_time_13 : decode cX6_time 13 = .ok (.aload_n 0, 1) := by decide +kernel
theorem dX6_time_14 : decode cX6_time 14 = .ok (.getfield 12, 3) := by decide +kernel
theorem dX6_time_17 : decode cX6_time 17 = .ok (.getfield 185, 3) := by decide +kernel
theorem dX6_time_20 : decode cX6_time 20 = .ok (.iload_n 1, 1) := by decide +kernel
theorem dX6_time_21 : decode cX6_time 21 = .ok (.iaload, 1) := by decide +kernel
theorem dX6_time_22 : decode cX6_time 22 = .ok (.ireturn, 1) := by decide +kernel
theorem dX6_timeByBars_0 : decode cX6_timeByBars 0 = .ok (.iload_n 1, 1) := by decide +kernel
theorem dX6_timeByBars_1 : decode cX6_timeByBars 1 = .ok (.aload_n 0, 1) := by decide +kernel
theorem dX6_timeByBars_2 : decode cX6_timeByBars 2 = .ok (.getfield 12, 3) := by decide +kernel
theorem dX6_timeByBars_5 : decode cX6_timeByBars 5 = .ok (.getfield 52, 3) := by decide +kernel
theorem dX6_timeByBars_8 : decode cX6_timeByBars 8 = .ok (.iconst 1, 1) := by decide +kernel
theorem dX6_timeByBars_9 : decode cX6_timeByBars 9 = .ok (.iadd, 1) := by decide +kernel
theorem dX6_timeByBars_10 : decode cX6_timeByBars 10 = .ok (.invokestatic 89, 3) := by decide +kernel
theorem dX6_timeByBars_13 : decode cX6_timeByBars 13 = .ok (.aload_n 0, 1) := by decide +kernel
theorem dX6_timeByBars_14 : decode cX6_timeByBars 14 = .ok (.getfield 12, 3) := by decide +kernel
theorem dX6_timeByBars_17 : decode cX6_timeByBars 17 = .ok (.iload_n 1, 1) := by decide +kernel
theorem dX6_timeByBars_18 : decode cX6_timeByBars 18 = .ok (.invokevirtual 188, 3) := by decide +kernel
theorem dX6_timeByBars_21 : decode cX6_timeByBars 21 = .ok (.ireturn, 1) := by decide +kernel
theorem dX6_items_0 : decode cX6_items 0 = .ok (.aload_n 0, 1) := by decide +kernel
theorem dX6_items_1 : decode cX6_items 1 = .ok (.iload_n 1, 1) := by decide +kernel
theorem dX6_items_2 : decode cX6_items 2 = .ok (.invokevirtual 191, 3) := by decide +kernel
theorem dX6_items_5 : decode cX6_items 5 = .ok (.aload_n 0, 1) := by decide +kernel
theorem dX6_items_6 : decode cX6_items 6 = .ok (.getfield 21, 3) := by decide +kernel
theorem dX6_items_9 : decode cX6_items 9 = .ok (.getfield 195, 3) := by decide +kernel
theorem dX6_items_12 : decode cX6_items 12 = .ok (.ireturn, 1) := by decide +kernel
theorem dX6_itemOf_0 : decode cX6_itemOf 0 = .ok (.aload_n 0, 1) := by decide +kernel
theorem dX6_itemOf_1 : decode cX6_itemOf 1 = .ok (.iload_n 1, 1) := by decide +kernel
theorem dX6_itemOf_2 : decode cX6_itemOf 2 = .ok (.invokevirtual 191, 3) := by decide +kernel
theorem dX6_itemOf_5 : decode cX6_itemOf 5 = .ok (.iload_n 2, 1) := by decide +kernel
theorem dX6_itemOf_6 : decode cX6_itemOf 6 = .ok (.aload_n 0, 1) := by decide +kernel
theorem dX6_itemOf_7 : decode cX6_itemOf 7 = .ok (.getfield 12, 3) := by decide +kernel
theorem dX6_itemOf_10 : decode cX6_itemOf 10 = .ok (.getfield 52, 3) := by decide +kernel
theorem dX6_itemOf_13 : decode cX6_itemOf 13 = .ok (.invokestatic 89, 3) := by decide +kernel
theorem dX6_itemOf_16 : decode cX6_itemOf 16 = .ok (.aload_n 0, 1) := by decide +kernel
theorem dX6_itemOf_17 : decode cX6_itemOf 17 = .ok (.getfield 21, 3) := by decide +kernel
theorem dX6_itemOf_20 : decode cX6_itemOf 20 = .ok (.getfield 198, 3) := by decide +kernel
theorem dX6_itemOf_23 : decode cX6_itemOf 23 = .ok (.iload_n 2, 1) := by decide +kernel
theorem dX6_itemOf_24 : decode cX6_itemOf 24 = .ok (.iaload, 1) := by decide +kernel
theorem dX6_itemOf_25 : decode cX6_itemOf 25 = .ok (.ireturn, 1) := by decide +kernel
theorem dX6_cue_0 : decode cX6_cue 0 = .ok (.aload_n 0, 1) := by decide +kernel
theorem dX6_cue_1 : decode cX6_cue 1 = .ok (.iload_n 1, 1) := by decide +kernel
theorem dX6_cue_2 : decode cX6_cue 2 = .ok (.iload_n 2, 1) := by decide +kernel
theorem dX6_cue_3 : decode cX6_cue 3 = .ok (.invokevirtual 67, 3) := by decide +kernel
theorem dX6_cue_6 : decode cX6_cue 6 = .ok (.pop, 1) := by decide +kernel
theorem dX6_cue_7 : decode cX6_cue 7 = .ok (.aload_n 0, 1) := by decide +kernel
theorem dX6_cue_8 : decode cX6_cue 8 = .ok (.getfield 12, 3) := by decide +kernel
theorem dX6_cue_11 : decode cX6_cue 11 = .ok (.iload_n 1, 1) := by decide +kernel
theorem dX6_cue_12 : decode cX6_cue 12 = .ok (.iload_n 2, 1) := by decide +kernel
theorem dX6_cue_13 : decode cX6_cue 13 = .ok (.invokevirtual 201, 3) := by decide +kernel
theorem dX6_cue_16 : decode cX6_cue 16 = .ok (.ireturn, 1) := by decide +kernel
theorem dX6_width_0 : decode cX6_width 0 = .ok (.aload_n 0, 1) := by decide +kernel
theorem dX6_width_1 : decode cX6_width 1 = .ok (.iload_n 1, 1) := by decide +kernel
theorem dX6_width_2 : decode cX6_width 2 = .ok (.invokevirtual 191, 3) := by decide +kernel
theorem dX6_width_5 : decode cX6_width 5 = .ok (.iload_n 2, 1) := by decide +kernel
theorem dX6_width_6 : decode cX6_width 6 = .ok (.aload_n 0, 1) := by decide +kernel
theorem dX6_width_7 : decode cX6_width 7 = .ok (.getfield 21, 3) := by decide +kernel
theorem dX6_width_10 : decode cX6_width 10 = .ok (.getfield 195, 3) := by decide +kernel
theorem dX6_width_13 : decode cX6_width 13 = .ok (.invokestatic 89, 3) := by decide +kernel
theorem dX6_width_16 : decode cX6_width 16 = .ok (.aload_n 0, 1) := by decide +kernel
theorem dX6_width_17 : decode cX6_width 17 = .ok (.getfield 21, 3) := by decide +kernel
theorem dX6_width_20 : decode cX6_width 20 = .ok (.iload_n 2, 1) := by decide +kernel
theorem dX6_width_21 : decode cX6_width 21 = .ok (.iload_n 2, 1) := by decide +kernel
theorem dX6_width_22 : decode cX6_width 22 = .ok (.iconst 1, 1) := by decide +kernel
theorem dX6_width_23 : decode cX6_width 23 = .ok (.iadd, 1) := by decide +kernel
theorem dX6_width_24 : decode cX6_width 24 = .ok (.invokevirtual 204, 3) := by decide +kernel
theorem dX6_width_27 : decode cX6_width 27 = .ok (.ireturn, 1) := by decide +kernel
theorem dX6_lines_0 : decode cX6_lines 0 = .ok (.aload_n 0, 1) := by decide +kernel
theorem dX6_lines_1 : decode cX6_lines 1 = .ok (.iload_n 1, 1) := by decide +kernel
theorem dX6_lines_2 : decode cX6_lines 2 = .ok (.invokevirtual 207, 3) := by decide +kernel
theorem dX6_lines_5 : decode cX6_lines 5 = .ok (.aload_n 0, 1) := by decide +kernel
theorem dX6_lines_6 : decode cX6_lines 6 = .ok (.getfield 30, 3) := by decide +kernel
theorem dX6_lines_9 : decode cX6_lines 9 = .ok (.getfield 210, 3) := by decide +kernel
theorem dX6_lines_12 : decode cX6_lines 12 = .ok (.ireturn, 1) := by decide +kernel
theorem dX6_lineOf_0 : decode cX6_lineOf 0 = .ok (.aload_n 0, 1) := by decide +kernel
theorem dX6_lineOf_1 : decode cX6_lineOf 1 = .ok (.iload_n 1, 1) := by decide +kernel
theorem dX6_lineOf_2 : decode cX6_lineOf 2 = .ok (.invokevirtual 207, 3) := by decide +kernel
theorem dX6_lineOf_5 : decode cX6_lineOf 5 = .ok (.iload_n 2, 1) := by decide +kernel
theorem dX6_lineOf_6 : decode cX6_lineOf 6 = .ok (.aload_n 0, 1) := by decide +kernel
theorem dX6_lineOf_7 : decode cX6_lineOf 7 = .ok (.getfield 12, 3) := by decide +kernel
theorem dX6_lineOf_10 : decode cX6_lineOf 10 = .ok (.getfield 52, 3) := by decide +kernel
theorem dX6_lineOf_13 : decode cX6_lineOf 13 = .ok (.invokestatic 89, 3) := by decide +kernel
theorem dX6_lineOf_16 : decode cX6_lineOf 16 = .ok (.aload_n 0, 1) := by decide +kernel
theorem dX6_lineOf_17 : decode cX6_lineOf 17 = .ok (.getfield 30, 3) := by decide +kernel
theorem dX6_lineOf_20 : decode cX6_lineOf 20 = .ok (.getfield 213, 3) := by decide +kernel
theorem dX6_lineOf_23 : decode cX6_lineOf 23 = .ok (.aload_n 0, 1) := by decide +kernel
theorem dX6_lineOf_24 : decode cX6_lineOf 24 = .ok (.getfield 21, 3) := by decide +kernel
theorem dX6_lineOf_27 : decode cX6_lineOf 27 = .ok (.getfield 198, 3) := by decide +kernel
theorem dX6_lineOf_30 : decode cX6_lineOf 30 = .ok (.iload_n 2, 1) := by decide +kernel
theorem dX6_lineOf_31 : decode cX6_lineOf 31 = .ok (.iaload, 1) := by decide +kernel
theorem dX6_lineOf_32 : decode cX6_lineOf 32 = .ok (.iaload, 1) := by decide +kernel
theorem dX6_lineOf_33 : decode cX6_lineOf 33 = .ok (.ireturn, 1) := by decide +kernel
theorem dX6_cost_0 : decode cX6_cost 0 = .ok (.aload_n 0, 1) := by decide +kernel
theorem dX6_cost_1 : decode cX6_cost 1 = .ok (.iload_n 1, 1) := by decide +kernel
theorem dX6_cost_2 : decode cX6_cost 2 = .ok (.invokevirtual 207, 3) := by decide +kernel
theorem dX6_cost_5 : decode cX6_cost 5 = .ok (.aload_n 0, 1) := by decide +kernel
theorem dX6_cost_6 : decode cX6_cost 6 = .ok (.getfield 30, 3) := by decide +kernel
theorem dX6_cost_9 : decode cX6_cost 9 = .ok (.invokevirtual 216, 3) := by decide +kernel
theorem dX6_cost_12 : decode cX6_cost 12 = .ok (.ireturn, 1) := by decide +kernel
theorem dX6_costByAll_0 : decode cX6_costByAll 0 = .ok (.aload_n 0, 1) := by decide +kernel
theorem dX6_costByAll_1 : decode cX6_costByAll 1 = .ok (.iload_n 1, 1) := by decide +kernel
theorem dX6_costByAll_2 : decode cX6_costByAll 2 = .ok (.invokevirtual 191, 3) := by decide +kernel
theorem dX6_costByAll_5 : decode cX6_costByAll 5 = .ok (.aload_n 0, 1) := by decide +kernel
theorem dX6_costByAll_6 : decode cX6_costByAll 6 = .ok (.getfield 30, 3) := by decide +kernel
theorem dX6_costByAll_9 : decode cX6_costByAll 9 = .ok (.invokevirtual 219, 3) := by decide +kernel
theorem dX6_costByAll_12 : decode cX6_costByAll 12 = .ok (.ireturn, 1) := by decide +kernel
theorem dX6_turns_0 : decode cX6_turns 0 = .ok (.aload_n 0, 1) := by decide +kernel
theorem dX6_turns_1 : decode cX6_turns 1 = .ok (.iload_n 1, 1) := by decide +kernel
theorem dX6_turns_2 : decode cX6_turns 2 = .ok (.invokevirtual 207, 3) := by decide +kernel
theorem dX6_turns_5 : decode cX6_turns 5 = .ok (.aload_n 0, 1) := by decide +kernel
theorem dX6_turns_6 : decode cX6_turns 6 = .ok (.getfield 30, 3) := by decide +kernel
theorem dX6_turns_9 : decode cX6_turns 9 = .ok (.getfield 222, 3) := by decide +kernel
theorem dX6_turns_12 : decode cX6_turns 12 = .ok (.ireturn, 1) := by decide +kernel
theorem dX6_place_0 : decode cX6_place 0 = .ok (.aload_n 0, 1) := by decide +kernel
theorem dX6_place_1 : decode cX6_place 1 = .ok (.iload_n 1, 1) := by decide +kernel
theorem dX6_place_2 : decode cX6_place 2 = .ok (.invokevirtual 207, 3) := by decide +kernel
theorem dX6_place_5 : decode cX6_place 5 = .ok (.iload_n 2, 1) := by decide +kernel
theorem dX6_place_6 : decode cX6_place 6 = .ok (.aload_n 0, 1) := by decide +kernel
theorem dX6_place_7 : decode cX6_place 7 = .ok (.getfield 12, 3) := by decide +kernel
theorem dX6_place_10 : decode cX6_place 10 = .ok (.getfield 52, 3) := by decide +kernel
theorem dX6_place_13 : decode cX6_place 13 = .ok (.invokestatic 89, 3) := by decide +kernel
theorem dX6_place_16 : decode cX6_place 16 = .ok (.aload_n 0, 1) := by decide +kernel
theorem dX6_place_17 : decode cX6_place 17 = .ok (.getfield 21, 3) := by decide +kernel
theorem dX6_place_20 : decode cX6_place 20 = .ok (.iload_n 2, 1) := by decide +kernel
theorem dX6_place_21 : decode cX6_place 21 = .ok (.iload_n 3, 1) := by decide +kernel
theorem dX6_place_22 : decode cX6_place 22 = .ok (.invokevirtual 225, 3) := by decide +kernel
theorem dX6_place_25 : decode cX6_place 25 = .ok (.istore 4, 2) := by decide +kernel
theorem dX6_place_27 : decode cX6_place 27 = .ok (.iload 4, 2) := by decide +kernel
theorem dX6_place_29 : decode cX6_place 29 = .ok (.iconst (-1), 1) := by decide +kernel
theorem dX6_place_30 : decode cX6_place 30 = .ok (.if_icmp .ne 13, 3) := by decide +kernel
theorem dX6_place_33 : decode cX6_place 33 = .ok (.new 228, 3) := by decide +kernel
theorem dX6_place_36 : decode cX6_place 36 = .ok (.dup, 1) := by decide +kernel
theorem dX6_place_37 : decode cX6_place 37 = .ok (.ldc 230, 2) := by decide +kernel
theorem dX6_place_39 : decode cX6_place 39 = .ok (.invokespecial 232, 3) := by decide +kernel
theorem dX6_place_42 : decode cX6_place 42 = .ok (.athrow, 1) := by decide +kernel
theorem dX6_place_43 : decode cX6_place 43 = .ok (.aload_n 0, 1) := by decide +kernel
theorem dX6_place_44 : decode cX6_place 44 = .ok (.getfield 30, 3) := by decide +kernel
theorem dX6_place_47 : decode cX6_place 47 = .ok (.aload_n 0, 1) := by decide +kernel
theorem dX6_place_48 : decode cX6_place 48 = .ok (.getfield 21, 3) := by decide +kernel
theorem dX6_place_51 : decode cX6_place 51 = .ok (.getfield 198, 3) := by decide +kernel
theorem dX6_place_54 : decode cX6_place 54 = .ok (.iload_n 2, 1) := by decide +kernel
theorem dX6_place_55 : decode cX6_place 55 = .ok (.iaload, 1) := by decide +kernel
theorem dX6_place_56 : decode cX6_place 56 = .ok (.iload 4, 2) := by decide +kernel
theorem dX6_place_58 : decode cX6_place 58 = .ok (.invokevirtual 233, 3) := by decide +kernel
theorem dX6_place_61 : decode cX6_place 61 = .ok (.ireturn, 1) := by decide +kernel
theorem dX6_copies_0 : decode cX6_copies 0 = .ok (.aload_n 0, 1) := by decide +kernel
theorem dX6_copies_1 : decode cX6_copies 1 = .ok (.getfield 105, 3) := by decide +kernel
theorem dX6_copies_4 : decode cX6_copies 4 = .ok (.ireturn, 1) := by decide +kernel
theorem dX6_deskOf_0 : decode cX6_deskOf 0 = .ok (.iload_n 1, 1) := by decide +kernel
theorem dX6_deskOf_1 : decode cX6_deskOf 1 = .ok (.aload_n 0, 1) := by decide +kernel
theorem dX6_deskOf_2 : decode cX6_deskOf 2 = .ok (.getfield 105, 3) := by decide +kernel
theorem dX6_deskOf_5 : decode cX6_deskOf 5 = .ok (.invokestatic 89, 3) := by decide +kernel
theorem dX6_deskOf_8 : decode cX6_deskOf 8 = .ok (.aload_n 0, 1) := by decide +kernel
theorem dX6_deskOf_9 : decode cX6_deskOf 9 = .ok (.getfield 36, 3) := by decide +kernel
theorem dX6_deskOf_12 : decode cX6_deskOf 12 = .ok (.iload_n 1, 1) := by decide +kernel
theorem dX6_deskOf_13 : decode cX6_deskOf 13 = .ok (.aaload, 1) := by decide +kernel
theorem dX6_deskOf_14 : decode cX6_deskOf 14 = .ok (.getfield 125, 3) := by decide +kernel
theorem dX6_deskOf_17 : decode cX6_deskOf 17 = .ok (.ireturn, 1) := by decide +kernel
theorem dX6_has_0 : decode cX6_has 0 = .ok (.iload_n 1, 1) := by decide +kernel
theorem dX6_has_1 : decode cX6_has 1 = .ok (.aload_n 0, 1) := by decide +kernel
theorem dX6_has_2 : decode cX6_has 2 = .ok (.getfield 105, 3) := by decide +kernel
theorem dX6_has_5 : decode cX6_has 5 = .ok (.invokestatic 89, 3) := by decide +kernel
theorem dX6_has_8 : decode cX6_has 8 = .ok (.iload_n 2, 1) := by decide +kernel
theorem dX6_has_9 : decode cX6_has 9 = .ok (.aload_n 0, 1) := by decide +kernel
theorem dX6_has_10 : decode cX6_has 10 = .ok (.getfield 12, 3) := by decide +kernel
theorem dX6_has_13 : decode cX6_has 13 = .ok (.getfield 52, 3) := by decide +kernel
theorem dX6_has_16 : decode cX6_has 16 = .ok (.invokestatic 89, 3) := by decide +kernel
theorem dX6_has_19 : decode cX6_has 19 = .ok (.aload_n 0, 1) := by decide +kernel
theorem dX6_has_20 : decode cX6_has 20 = .ok (.getfield 36, 3) := by decide +kernel
theorem dX6_has_23 : decode cX6_has 23 = .ok (.iload_n 1, 1) := by decide +kernel
theorem dX6_has_24 : decode cX6_has 24 = .ok (.aaload, 1) := by decide +kernel
theorem dX6_has_25 : decode cX6_has 25 = .ok (.iload_n 2, 1) := by decide +kernel
theorem dX6_has_26 : decode cX6_has 26 = .ok (.invokevirtual 151, 3) := by decide +kernel
theorem dX6_has_29 : decode cX6_has 29 = .ok (.ireturn, 1) := by decide +kernel
theorem dX6_owed_0 : decode cX6_owed 0 = .ok (.iload_n 1, 1) := by decide +kernel
theorem dX6_owed_1 : decode cX6_owed 1 = .ok (.aload_n 0, 1) := by decide +kernel
theorem dX6_owed_2 : decode cX6_owed 2 = .ok (.getfield 105, 3) := by decide +kernel
theorem dX6_owed_5 : decode cX6_owed 5 = .ok (.invokestatic 89, 3) := by decide +kernel
theorem dX6_owed_8 : decode cX6_owed 8 = .ok (.aload_n 0, 1) := by decide +kernel
theorem dX6_owed_9 : decode cX6_owed 9 = .ok (.getfield 36, 3) := by decide +kernel
theorem dX6_owed_12 : decode cX6_owed 12 = .ok (.iload_n 1, 1) := by decide +kernel
theorem dX6_owed_13 : decode cX6_owed 13 = .ok (.aaload, 1) := by decide +kernel
theorem dX6_owed_14 : decode cX6_owed 14 = .ok (.invokevirtual 139, 3) := by decide +kernel
theorem dX6_owed_17 : decode cX6_owed 17 = .ok (.ireturn, 1) := by decide +kernel
theorem dX6_markOf_0 : decode cX6_markOf 0 = .ok (.iload_n 1, 1) := by decide +kernel
theorem dX6_markOf_1 : decode cX6_markOf 1 = .ok (.bipush 6, 2) := by decide +kernel
theorem dX6_markOf_3 : decode cX6_markOf 3 = .ok (.invokestatic 89, 3) := by decide +kernel
theorem dX6_markOf_6 : decode cX6_markOf 6 = .ok (.aload_n 0, 1) := by decide +kernel
theorem dX6_markOf_7 : decode cX6_markOf 7 = .ok (.getfield 43, 3) := by decide +kernel
theorem dX6_markOf_10 : decode cX6_markOf 10 = .ok (.iload_n 1, 1) := by decide +kernel
theorem dX6_markOf_11 : decode cX6_markOf 11 = .ok (.aaload, 1) := by decide +kernel
theorem dX6_markOf_12 : decode cX6_markOf 12 = .ok (.getfield 236, 3) := by decide +kernel
theorem dX6_markOf_15 : decode cX6_markOf 15 = .ok (.aload_n 0, 1) := by decide +kernel
theorem dX6_markOf_16 : decode cX6_markOf 16 = .ok (.iload_n 2, 1) := by decide +kernel
theorem dX6_markOf_17 : decode cX6_markOf 17 = .ok (.iload_n 3, 1) := by decide +kernel
theorem dX6_markOf_18 : decode cX6_markOf 18 = .ok (.invokevirtual 67, 3) := by decide +kernel
theorem dX6_markOf_21 : decode cX6_markOf 21 = .ok (.iaload, 1) := by decide +kernel
theorem dX6_markOf_22 : decode cX6_markOf 22 = .ok (.ireturn, 1) := by decide +kernel
theorem dX6_oldMarks_0 : decode cX6_oldMarks 0 = .ok (.iload_n 1, 1) := by decide +kernel
theorem dX6_oldMarks_1 : decode cX6_oldMarks 1 = .ok (.bipush 6, 2) := by decide +kernel
theorem dX6_oldMarks_3 : decode cX6_oldMarks 3 = .ok (.invokestatic 89, 3) := by decide +kernel
theorem dX6_oldMarks_6 : decode cX6_oldMarks 6 = .ok (.aload_n 0, 1) := by decide +kernel
theorem dX6_oldMarks_7 : decode cX6_oldMarks 7 = .ok (.getfield 43, 3) := by decide +kernel
theorem dX6_oldMarks_10 : decode cX6_oldMarks 10 = .ok (.iload_n 1, 1) := by decide +kernel
theorem dX6_oldMarks_11 : decode cX6_oldMarks 11 = .ok (.aaload, 1) := by decide +kernel
theorem dX6_oldMarks_12 : decode cX6_oldMarks 12 = .ok (.aload_n 0, 1) := by decide +kernel
theorem dX6_oldMarks_13 : decode cX6_oldMarks 13 = .ok (.getfield 12, 3) := by decide +kernel
theorem dX6_oldMarks_16 : decode cX6_oldMarks 16 = .ok (.invokevirtual 239, 3) := by decide +kernel
theorem dX6_oldMarks_19 : decode cX6_oldMarks 19 = .ok (.ireturn, 1) := by decide +kernel
theorem dX6_clashes_0 : decode cX6_clashes 0 = .ok (.iload_n 1, 1) := by decide +kernel
theorem dX6_clashes_1 : decode cX6_clashes 1 = .ok (.iconst 5, 1) := by decide +kernel
theorem dX6_clashes_2 : decode cX6_clashes 2 = .ok (.invokestatic 89, 3) := by decide +kernel
theorem dX6_clashes_5 : decode cX6_clashes 5 = .ok (.iconst 0, 1) := by decide +kernel
theorem dX6_clashes_6 : decode cX6_clashes 6 = .ok (.istore_n 2, 1) := by decide +kernel
theorem dX6_clashes_7 : decode cX6_clashes 7 = .ok (.iconst 0, 1) := by decide +kernel
theorem dX6_clashes_8 : decode cX6_clashes 8 = .ok (.istore_n 3, 1) := by decide +kernel
theorem dX6_clashes_9 : decode cX6_clashes 9 = .ok (.iload_n 3, 1) := by decide +kernel
theorem dX6_clashes_10 : decode cX6_clashes 10 = .ok (.iconst 3, 1) := by decide +kernel
theorem dX6_clashes_11 : decode cX6_clashes 11 = .ok (.if_icmp .ge 35, 3) := by decide +kernel
theorem dX6_clashes_14 : decode cX6_clashes 14 = .ok (.iload_n 2, 1) := by decide +kernel
theorem dX6_clashes_15 : decode cX6_clashes 15 = .ok (.aload_n 0, 1) := by decide +kernel
theorem dX6_clashes_16 : decode cX6_clashes 16 = .ok (.aload_n 0, 1) := by decide +kernel
theorem dX6_clashes_17 : decode cX6_clashes 17 = .ok (.getfield 43, 3) := by decide +kernel
theorem dX6_clashes_20 : decode cX6_clashes 20 = .ok (.iconst 2, 1) := by decide +kernel
theorem dX6_clashes_21 : decode cX6_clashes 21 = .ok (.iload_n 3, 1) := by decide +kernel
theorem dX6_clashes_22 : decode cX6_clashes 22 = .ok (.imul, 1) := by decide +kernel
theorem dX6_clashes_23 : decode cX6_clashes 23 = .ok (.aaload, 1) := by decide +kernel
theorem dX6_clashes_24 : decode cX6_clashes 24 = .ok (.aload_n 0, 1) := by decide +kernel
theorem dX6_clashes_25 : decode cX6_clashes 25 = .ok (.getfield 43, 3) := by decide +kernel
theorem dX6_clashes_28 : decode cX6_clashes 28 = .ok (.iconst 2, 1) := by decide +kernel
theorem dX6_clashes_29 : decode cX6_clashes 29 = .ok (.iload_n 3, 1) := by decide +kernel
theorem dX6_clashes_30 : decode cX6_clashes 30 = .ok (.imul, 1) := by decide +kernel
theorem dX6_clashes_31 : decode cX6_clashes 31 = .ok (.iconst 1, 1) := by decide +kernel
theorem dX6_clashes_32 : decode cX6_clashes 32 = .ok (.iadd, 1) := by decide +kernel
theorem dX6_clashes_33 : decode cX6_clashes 33 = .ok (.aaload, 1) := by decide +kernel
theorem dX6_clashes_34 : decode cX6_clashes 34 = .ok (.iload_n 1, 1) := by decide +kernel
theorem dX6_clashes_35 : decode cX6_clashes 35 = .ok (.invokevirtual 243, 3) := by decide +kernel
theorem dX6_clashes_38 : decode cX6_clashes 38 = .ok (.iadd, 1) := by decide +kernel
theorem dX6_clashes_39 : decode cX6_clashes 39 = .ok (.istore_n 2, 1) := by decide +kernel
theorem dX6_clashes_40 : decode cX6_clashes 40 = .ok (.iinc 3 1, 3) := by decide +kernel
theorem dX6_clashes_43 : decode cX6_clashes 43 = .ok (.goto (-34), 3) := by decide +kernel
theorem dX6_clashes_46 : decode cX6_clashes 46 = .ok (.iload_n 2, 1) := by decide +kernel
theorem dX6_clashes_47 : decode cX6_clashes 47 = .ok (.ireturn, 1) := by decide +kernel
theorem dX6_concerts_0 : decode cX6_concerts 0 = .ok (.aload_n 0, 1) := by decide +kernel
theorem dX6_concerts_1 : decode cX6_concerts 1 = .ok (.getfield 176, 3) := by decide +kernel
theorem dX6_concerts_4 : decode cX6_concerts 4 = .ok (.ireturn, 1) := by decide +kernel
theorem dX6_needIndex_0 : decode cX6_needIndex 0 = .ok (.iload_n 0, 1) := by decide +kernel
theorem dX6_needIndex_1 : decode cX6_needIndex 1 = .ok (.ifCond .lt 8, 3) := by decide +kernel
theorem dX6_needIndex_4 : decode cX6_needIndex 4 = .ok (.iload_n 0, 1) := by decide +kernel
theorem dX6_needIndex_5 : decode cX6_needIndex 5 = .ok (.iload_n 1, 1) := by decide +kernel
theorem dX6_needIndex_6 : decode cX6_needIndex 6 = .ok (.if_icmp .lt 13, 3) := by decide +kernel
theorem dX6_needIndex_9 : decode cX6_needIndex 9 = .ok (.new 228, 3) := by decide +kernel
theorem dX6_needIndex_12 : decode cX6_needIndex 12 = .ok (.dup, 1) := by decide +kernel
theorem dX6_needIndex_13 : decode cX6_needIndex 13 = .ok (.ldc 247, 2) := by decide +kernel
theorem dX6_needIndex_15 : decode cX6_needIndex 15 = .ok (.invokespecial 232, 3) := by decide +kernel
theorem dX6_needIndex_18 : decode cX6_needIndex 18 = .ok (.athrow, 1) := by decide +kernel
theorem dX6_needIndex_19 : decode cX6_needIndex 19 = .ok (.return_, 1) := by decide +kernel
theorem dX6_needValue_0 : decode cX6_needValue 0 = .ok (.iload_n 0, 1) := by decide +kernel
theorem dX6_needValue_1 : decode cX6_needValue 1 = .ok (.iload_n 1, 1) := by decide +kernel
theorem dX6_needValue_2 : decode cX6_needValue 2 = .ok (.if_icmp .lt 8, 3) := by decide +kernel
theorem dX6_needValue_5 : decode cX6_needValue 5 = .ok (.iload_n 0, 1) := by decide +kernel
theorem dX6_needValue_6 : decode cX6_needValue 6 = .ok (.iload_n 2, 1) := by decide +kernel
theorem dX6_needValue_7 : decode cX6_needValue 7 = .ok (.if_icmp .le 13, 3) := by decide +kernel
theorem dX6_needValue_10 : decode cX6_needValue 10 = .ok (.new 249, 3) := by decide +kernel
theorem dX6_needValue_13 : decode cX6_needValue 13 = .ok (.dup, 1) := by decide +kernel
theorem dX6_needValue_14 : decode cX6_needValue 14 = .ok (.ldc 251, 2) := by decide +kernel
theorem dX6_needValue_16 : decode cX6_needValue 16 = .ok (.invokespecial 253, 3) := by decide +kernel
theorem dX6_needValue_19 : decode cX6_needValue 19 = .ok (.athrow, 1) := by decide +kernel
theorem dX6_needValue_20 : decode cX6_needValue 20 = .ok (.return_, 1) := by decide +kernel
theorem dX6_slotOf_0 : decode cX6_slotOf 0 = .ok (.iload_n 0, 1) := by decide +kernel
theorem dX6_slotOf_1 : decode cX6_slotOf 1 = .ok (.bipush 12, 2) := by decide +kernel
theorem dX6_slotOf_3 : decode cX6_slotOf 3 = .ok (.imul, 1) := by decide +kernel
theorem dX6_slotOf_4 : decode cX6_slotOf 4 = .ok (.iload_n 1, 1) := by decide +kernel
theorem dX6_slotOf_5 : decode cX6_slotOf 5 = .ok (.iadd, 1) := by decide +kernel
theorem dX6_slotOf_6 : decode cX6_slotOf 6 = .ok (.ireturn, 1) := by decide +kernel
theorem dX6_needSlot_0 : decode cX6_needSlot 0 = .ok (.iload_n 1, 1) := by decide +kernel
theorem dX6_needSlot_1 : decode cX6_needSlot 1 = .ok (.iconst 5, 1) := by decide +kernel
theorem dX6_needSlot_2 : decode cX6_needSlot 2 = .ok (.invokestatic 89, 3) := by decide +kernel
theorem dX6_needSlot_5 : decode cX6_needSlot 5 = .ok (.iload_n 2, 1) := by decide +kernel
theorem dX6_needSlot_6 : decode cX6_needSlot 6 = .ok (.aload_n 0, 1) := by decide +kernel
theorem dX6_needSlot_7 : decode cX6_needSlot 7 = .ok (.getfield 12, 3) := by decide +kernel
theorem dX6_needSlot_10 : decode cX6_needSlot 10 = .ok (.getfield 52, 3) := by decide +kernel
theorem dX6_needSlot_13 : decode cX6_needSlot 13 = .ok (.invokestatic 89, 3) := by decide +kernel
theorem dX6_needSlot_16 : decode cX6_needSlot 16 = .ok (.iload_n 1, 1) := by decide +kernel
theorem dX6_needSlot_17 : decode cX6_needSlot 17 = .ok (.iload_n 2, 1) := by decide +kernel
theorem dX6_needSlot_18 : decode cX6_needSlot 18 = .ok (.invokestatic 148, 3) := by decide +kernel
theorem dX6_needSlot_21 : decode cX6_needSlot 21 = .ok (.ireturn, 1) := by decide +kernel
theorem dX6_needCopyOut_0 : decode cX6_needCopyOut 0 = .ok (.iload_n 1, 1) := by decide +kernel
theorem dX6_needCopyOut_1 : decode cX6_needCopyOut 1 = .ok (.aload_n 0, 1) := by decide +kernel
theorem dX6_needCopyOut_2 : decode cX6_needCopyOut 2 = .ok (.getfield 105, 3) := by decide +kernel
theorem dX6_needCopyOut_5 : decode cX6_needCopyOut 5 = .ok (.invokestatic 89, 3) := by decide +kernel
theorem dX6_needCopyOut_8 : decode cX6_needCopyOut 8 = .ok (.aload_n 0, 1) := by decide +kernel
theorem dX6_needCopyOut_9 : decode cX6_needCopyOut 9 = .ok (.getfield 36, 3) := by decide +kernel
theorem dX6_needCopyOut_12 : decode cX6_needCopyOut 12 = .ok (.iload_n 1, 1) := by decide +kernel
theorem dX6_needCopyOut_13 : decode cX6_needCopyOut 13 = .ok (.aaload, 1) := by decide +kernel
theorem dX6_needCopyOut_14 : decode cX6_needCopyOut 14 = .ok (.astore_n 2, 1) := by decide +kernel
theorem dX6_needCopyOut_15 : decode cX6_needCopyOut 15 = .ok (.aload_n 2, 1) := by decide +kernel
theorem dX6_needCopyOut_16 : decode cX6_needCopyOut 16 = .ok (.invokevirtual 113, 3) := by decide +kernel
theorem dX6_needCopyOut_19 : decode cX6_needCopyOut 19 = .ok (.ifCond .ne 13, 3) := by decide +kernel
theorem dX6_needCopyOut_22 : decode cX6_needCopyOut 22 = .ok (.new 56, 3) := by decide +kernel
theorem dX6_needCopyOut_25 : decode cX6_needCopyOut 25 = .ok (.dup, 1) := by decide +kernel
theorem dX6_needCopyOut_26 : decode cX6_needCopyOut 26 = .ok (.ldc 254, 2) := by decide +kernel
theorem dX6_needCopyOut_28 : decode cX6_needCopyOut 28 = .ok (.invokespecial 60, 3) := by decide +kernel
theorem dX6_needCopyOut_31 : decode cX6_needCopyOut 31 = .ok (.athrow, 1) := by decide +kernel
theorem dX6_needCopyOut_32 : decode cX6_needCopyOut 32 = .ok (.aload_n 2, 1) := by decide +kernel
theorem dX6_needCopyOut_33 : decode cX6_needCopyOut 33 = .ok (.areturn, 1) := by decide +kernel
theorem dX6_deskHasPart_0 : decode cX6_deskHasPart 0 = .ok (.iconst 0, 1) := by decide +kernel
theorem dX6_deskHasPart_1 : decode cX6_deskHasPart 1 = .ok (.istore_n 3, 1) := by decide +kernel
theorem dX6_deskHasPart_2 : decode cX6_deskHasPart 2 = .ok (.iload_n 3, 1) := by decide +kernel
theorem dX6_deskHasPart_3 : decode cX6_deskHasPart 3 = .ok (.aload_n 0, 1) := by decide +kernel
theorem dX6_deskHasPart_4 : decode cX6_deskHasPart 4 = .ok (.getfield 105, 3) := by decide +kernel
theorem dX6_deskHasPart_7 : decode cX6_deskHasPart 7 = .ok (.if_icmp .ge 37, 3) := by decide +kernel
theorem dX6_deskHasPart_10 : decode cX6_deskHasPart 10 = .ok (.aload_n 0, 1) := by decide +kernel
theorem dX6_deskHasPart_11 : decode cX6_deskHasPart 11 = .ok (.getfield 36, 3) := by decide +kernel
theorem dX6_deskHasPart_14 : decode cX6_deskHasPart 14 = .ok (.iload_n 3, 1) := by decide +kernel
theorem dX6_deskHasPart_15 : decode cX6_deskHasPart 15 = .ok (.aaload, 1) := by decide +kernel
theorem dX6_deskHasPart_16 : decode cX6_deskHasPart 16 = .ok (.getfield 125, 3) := by decide +kernel
theorem dX6_deskHasPart_19 : decode cX6_deskHasPart 19 = .ok (.iload_n 1, 1) := by decide +kernel
theorem dX6_deskHasPart_20 : decode cX6_deskHasPart 20 = .ok (.if_icmp .ne 18, 3) := by decide +kernel
theorem dX6_deskHasPart_23 : decode cX6_deskHasPart 23 = .ok (.aload_n 0, 1) := by decide +kernel
theorem dX6_deskHasPart_24 : decode cX6_deskHasPart 24 = .ok (.getfield 36, 3) := by decide +kernel
theorem dX6_deskHasPart_27 : decode cX6_deskHasPart 27 = .ok (.iload_n 3, 1) := by decide +kernel
theorem dX6_deskHasPart_28 : decode cX6_deskHasPart 28 = .ok (.aaload, 1) := by decide +kernel
theorem dX6_deskHasPart_29 : decode cX6_deskHasPart 29 = .ok (.getfield 110, 3) := by decide +kernel
theorem dX6_deskHasPart_32 : decode cX6_deskHasPart 32 = .ok (.iload_n 2, 1) := by decide +kernel
theorem dX6_deskHasPart_33 : decode cX6_deskHasPart 33 = .ok (.if_icmp .ne 5, 3) := by decide +kernel
theorem dX6_deskHasPart_36 : decode cX6_deskHasPart 36 = .ok (.iconst 1, 1) := by decide +kernel
theorem dX6_deskHasPart_37 : decode cX6_deskHasPart 37 = .ok (.ireturn, 1) := by decide +kernel
theorem dX6_deskHasPart_38 : decode cX6_deskHasPart 38 = .ok (.iinc 3 1, 3) := by decide +kernel
theorem dX6_deskHasPart_41 : decode cX6_deskHasPart 41 = .ok (.goto (-39), 3) := by decide +kernel
theorem dX6_deskHasPart_44 : decode cX6_deskHasPart 44 = .ok (.iconst 0, 1) := by decide +kernel
theorem dX6_deskHasPart_45 : decode cX6_deskHasPart 45 = .ok (.ireturn, 1) := by decide +kernel
theorem dX6_copiesOut_0 : decode cX6_copiesOut 0 = .ok (.iconst 0, 1) := by decide +kernel
theorem dX6_copiesOut_1 : decode cX6_copiesOut 1 = .ok (.istore_n 1, 1) := by decide +kernel
theorem dX6_copiesOut_2 : decode cX6_copiesOut 2 = .ok (.iconst 0, 1) := by decide +kernel
theorem dX6_copiesOut_3 : decode cX6_copiesOut 3 = .ok (.istore_n 2, 1) := by decide +kernel
theorem dX6_copiesOut_4 : decode cX6_copiesOut 4 = .ok (.iload_n 2, 1) := by decide +kernel
theorem dX6_copiesOut_5 : decode cX6_copiesOut 5 = .ok (.aload_n 0, 1) := by decide +kernel
theorem dX6_copiesOut_6 : decode cX6_copiesOut 6 = .ok (.getfield 105, 3) := by decide +kernel
theorem dX6_copiesOut_9 : decode cX6_copiesOut 9 = .ok (.if_icmp .ge 24, 3) := by decide +kernel
theorem dX6_copiesOut_12 : decode cX6_copiesOut 12 = .ok (.aload_n 0, 1) := by decide +kernel
theorem dX6_copiesOut_13 : decode cX6_copiesOut 13 = .ok (.getfield 36, 3) := by decide +kernel
theorem dX6_copiesOut_16 : decode cX6_copiesOut 16 = .ok (.iload_n 2, 1) := by decide +kernel
theorem dX6_copiesOut_17 : decode cX6_copiesOut 17 = .ok (.aaload, 1) := by decide +kernel
theorem dX6_copiesOut_18 : decode cX6_copiesOut 18 = .ok (.invokevirtual 113, 3) := by decide +kernel
theorem dX6_copiesOut_21 : decode cX6_copiesOut 21 = .ok (.ifCond .eq 6, 3) := by decide +kernel
theorem dX6_copiesOut_24 : decode cX6_copiesOut 24 = .ok (.iinc 1 1, 3) := by decide +kernel
theorem dX6_copiesOut_27 : decode cX6_copiesOut 27 = .ok (.iinc 2 1, 3) := by decide +kernel
theorem dX6_copiesOut_30 : decode cX6_copiesOut 30 = .ok (.goto (-26), 3) := by decide +kernel
theorem dX6_copiesOut_33 : decode cX6_copiesOut 33 = .ok (.iload_n 1, 1) := by decide +kernel
theorem dX6_copiesOut_34 : decode cX6_copiesOut 34 = .ok (.ireturn, 1) := by decide +kernel
theorem dX6_anyCopyOwes_0 : decode cX6_anyCopyOwes 0 = .ok (.iconst 0, 1) := by decide +kernel
theorem dX6_anyCopyOwes_1 : decode cX6_anyCopyOwes 1 = .ok (.istore_n 1, 1) := by decide +kernel
theorem dX6_anyCopyOwes_2 : decode cX6_anyCopyOwes 2 = .ok (.iload_n 1, 1) := by decide +kernel
theorem dX6_anyCopyOwes_3 : decode cX6_anyCopyOwes 3 = .ok (.aload_n 0, 1) := by decide +kernel
theorem dX6_anyCopyOwes_4 : decode cX6_anyCopyOwes 4 = .ok (.getfield 105, 3) := by decide +kernel
theorem dX6_anyCopyOwes_7 : decode cX6_anyCopyOwes 7 = .ok (.if_icmp .ge 23, 3) := by decide +kernel
theorem dX6_anyCopyOwes_10 : decode cX6_anyCopyOwes 10 = .ok (.aload_n 0, 1) := by decide +kernel
theorem dX6_anyCopyOwes_11 : decode cX6_anyCopyOwes 11 = .ok (.getfield 36, 3) := by decide +kernel
theorem dX6_anyCopyOwes_14 : decode cX6_anyCopyOwes 14 = .ok (.iload_n 1, 1) := by decide +kernel
theorem dX6_anyCopyOwes_15 : decode cX6_anyCopyOwes 15 = .ok (.aaload, 1) := by decide +kernel
theorem dX6_anyCopyOwes_16 : decode cX6_anyCopyOwes 16 = .ok (.invokevirtual 139, 3) := by decide +kernel
theorem dX6_anyCopyOwes_19 : decode cX6_anyCopyOwes 19 = .ok (.ifCond .le 5, 3) := by decide +kernel
theorem dX6_anyCopyOwes_22 : decode cX6_anyCopyOwes 22 = .ok (.iconst 1, 1) := by decide +kernel
theorem dX6_anyCopyOwes_23 : decode cX6_anyCopyOwes 23 = .ok (.ireturn, 1) := by decide +kernel
theorem dX6_anyCopyOwes_24 : decode cX6_anyCopyOwes 24 = .ok (.iinc 1 1, 3) := by decide +kernel
theorem dX6_anyCopyOwes_27 : decode cX6_anyCopyOwes 27 = .ok (.goto (-25), 3) := by decide +kernel
theorem dX6_anyCopyOwes_30 : decode cX6_anyCopyOwes 30 = .ok (.iconst 0, 1) := by decide +kernel
theorem dX6_anyCopyOwes_31 : decode cX6_anyCopyOwes 31 = .ok (.ireturn, 1) := by decide +kernel
theorem dX6_clashesAt_0 : decode cX6_clashesAt 0 = .ok (.iconst 0, 1) := by decide +kernel
theorem dX6_clashesAt_1 : decode cX6_clashesAt 1 = .ok (.istore 4, 2) := by decide +kernel
theorem dX6_clashesAt_3 : decode cX6_clashesAt 3 = .ok (.iconst 0, 1) := by decide +kernel
theorem dX6_clashesAt_4 : decode cX6_clashesAt 4 = .ok (.istore 5, 2) := by decide +kernel
theorem dX6_clashesAt_6 : decode cX6_clashesAt 6 = .ok (.iload 5, 2) := by decide +kernel
theorem dX6_clashesAt_8 : decode cX6_clashesAt 8 = .ok (.aload_n 0, 1) := by decide +kernel
theorem dX6_clashesAt_9 : decode cX6_clashesAt 9 = .ok (.getfield 12, 3) := by decide +kernel
theorem dX6_clashesAt_12 : decode cX6_clashesAt 12 = .ok (.getfield 52, 3) := by decide +kernel
theorem dX6_clashesAt_15 : decode cX6_clashesAt 15 = .ok (.if_icmp .ge 97, 3) := by decide +kernel
theorem dX6_clashesAt_18 : decode cX6_clashesAt 18 = .ok (.iload_n 3, 1) := by decide +kernel
theorem dX6_clashesAt_19 : decode cX6_clashesAt 19 = .ok (.iload 5, 2) := by decide +kernel
theorem dX6_clashesAt_21 : decode cX6_clashesAt 21 = .ok (.invokestatic 148, 3) := by decide +kernel
theorem dX6_clashesAt_24 : decode cX6_clashesAt 24 = .ok (.istore 6, 2) := by decide +kernel
theorem dX6_clashesAt_26 : decode cX6_clashesAt 26 = .ok (.aload_n 0, 1) := by decide +kernel
theorem dX6_clashesAt_27 : decode cX6_clashesAt 27 = .ok (.getfield 12, 3) := by decide +kernel
theorem dX6_clashesAt_30 : decode cX6_clashesAt 30 = .ok (.getfield 162, 3) := by decide +kernel
theorem dX6_clashesAt_33 : decode cX6_clashesAt 33 = .ok (.iload 6, 2) := by decide +kernel
theorem dX6_clashesAt_35 : decode cX6_clashesAt 35 = .ok (.iaload, 1) := by decide +kernel
theorem dX6_clashesAt_36 : decode cX6_clashesAt 36 = .ok (.istore 7, 2) := by decide +kernel
theorem dX6_clashesAt_38 : decode cX6_clashesAt 38 = .ok (.iconst 0, 1) := by decide +kernel
theorem dX6_clashesAt_39 : decode cX6_clashesAt 39 = .ok (.istore 8, 2) := by decide +kernel
theorem dX6_clashesAt_41 : decode cX6_clashesAt 41 = .ok (.iload 8, 2) := by decide +kernel
theorem dX6_clashesAt_43 : decode cX6_clashesAt 43 = .ok (.aload_n 0, 1) := by decide +kernel
theorem dX6_clashesAt_44 : decode cX6_clashesAt 44 = .ok (.getfield 12, 3) := by decide +kernel
theorem dX6_clashesAt_47 : decode cX6_clashesAt 47 = .ok (.getfield 71, 3) := by decide +kernel
theorem dX6_clashesAt_50 : decode cX6_clashesAt 50 = .ok (.iload 6, 2) := by decide +kernel
theorem dX6_clashesAt_52 : decode cX6_clashesAt 52 = .ok (.iaload, 1) := by decide +kernel
theorem dX6_clashesAt_53 : decode cX6_clashesAt 53 = .ok (.if_icmp .ge 53, 3) := by decide +kernel
theorem dX6_clashesAt_56 : decode cX6_clashesAt 56 = .ok (.aload_n 1, 1) := by decide +kernel
theorem dX6_clashesAt_57 : decode cX6_clashesAt 57 = .ok (.iload 6, 2) := by decide +kernel
theorem dX6_clashesAt_59 : decode cX6_clashesAt 59 = .ok (.iload 8, 2) := by decide +kernel
theorem dX6_clashesAt_61 : decode cX6_clashesAt 61 = .ok (.iload 7, 2) := by decide +kernel
theorem dX6_clashesAt_63 : decode cX6_clashesAt 63 = .ok (.invokevirtual 256, 3) := by decide +kernel
theorem dX6_clashesAt_66 : decode cX6_clashesAt 66 = .ok (.istore 9, 2) := by decide +kernel
theorem dX6_clashesAt_68 : decode cX6_clashesAt 68 = .ok (.aload_n 2, 1) := by decide +kernel
theorem dX6_clashesAt_69 : decode cX6_clashesAt 69 = .ok (.iload 6, 2) := by decide +kernel
theorem dX6_clashesAt_71 : decode cX6_clashesAt 71 = .ok (.iload 8, 2) := by decide +kernel
theorem dX6_clashesAt_73 : decode cX6_clashesAt 73 = .ok (.iload 7, 2) := by decide +kernel
theorem dX6_clashesAt_75 : decode cX6_clashesAt 75 = .ok (.invokevirtual 256, 3) := by decide +kernel
theorem dX6_clashesAt_78 : decode cX6_clashesAt 78 = .ok (.istore 10, 2) := by decide +kernel
theorem dX6_clashesAt_80 : decode cX6_clashesAt 80 = .ok (.iload 9, 2) := by decide +kernel
theorem dX6_clashesAt_82 : decode cX6_clashesAt 82 = .ok (.ifCond .eq 18, 3) := by decide +kernel
theorem dX6_clashesAt_85 : decode cX6_clashesAt 85 = .ok (.iload 10, 2) := by decide +kernel
theorem dX6_clashesAt_87 : decode cX6_clashesAt 87 = .ok (.ifCond .eq 13, 3) := by decide +kernel
theorem dX6_clashesAt_90 : decode cX6_clashesAt 90 = .ok (.iload 9, 2) := by decide +kernel
theorem dX6_clashesAt_92 : decode cX6_clashesAt 92 = .ok (.iload 10, 2) := by decide +kernel
theorem dX6_clashesAt_94 : decode cX6_clashesAt 94 = .ok (.if_icmp .eq 6, 3) := by decide +kernel
theorem dX6_clashesAt_97 : decode cX6_clashesAt 97 = .ok (.iinc 4 1, 3) := by decide +kernel
theorem dX6_clashesAt_100 : decode cX6_clashesAt 100 = .ok (.iinc 8 1, 3) := by decide +kernel
theorem dX6_clashesAt_103 : decode cX6_clashesAt 103 = .ok (.goto (-62), 3) := by decide +kernel
theorem dX6_clashesAt_106 : decode cX6_clashesAt 106 = .ok (.iinc 5 1, 3) := by decide +kernel
theorem dX6_clashesAt_109 : decode cX6_clashesAt 109 = .ok (.goto (-103), 3) := by decide +kernel
theorem dX6_clashesAt_112 : decode cX6_clashesAt 112 = .ok (.iload 4, 2) := by decide +kernel
theorem dX6_clashesAt_114 : decode cX6_clashesAt 114 = .ok (.ireturn, 1) := by decide +kernel
theorem dX6_openBook_0 : decode cX6_openBook 0 = .ok (.iload_n 1, 1) := by decide +kernel
theorem dX6_openBook_1 : decode cX6_openBook 1 = .ok (.bipush 6, 2) := by decide +kernel
theorem dX6_openBook_3 : decode cX6_openBook 3 = .ok (.invokestatic 89, 3) := by decide +kernel
theorem dX6_openBook_6 : decode cX6_openBook 6 = .ok (.aload_n 0, 1) := by decide +kernel
theorem dX6_openBook_7 : decode cX6_openBook 7 = .ok (.getfield 21, 3) := by decide +kernel
theorem dX6_openBook_10 : decode cX6_openBook 10 = .ok (.iload_n 1, 1) := by decide +kernel
theorem dX6_openBook_11 : decode cX6_openBook 11 = .ok (.invokevirtual 259, 3) := by decide +kernel
theorem dX6_openBook_14 : decode cX6_openBook 14 = .ok (.return_, 1) := by decide +kernel
theorem dX6_breakBook_0 : decode cX6_breakBook 0 = .ok (.iload_n 1, 1) := by decide +kernel
theorem dX6_breakBook_1 : decode cX6_breakBook 1 = .ok (.bipush 6, 2) := by decide +kernel
theorem dX6_breakBook_3 : decode cX6_breakBook 3 = .ok (.invokestatic 89, 3) := by decide +kernel
theorem dX6_breakBook_6 : decode cX6_breakBook 6 = .ok (.aload_n 0, 1) := by decide +kernel
theorem dX6_breakBook_7 : decode cX6_breakBook 7 = .ok (.getfield 21, 3) := by decide +kernel
theorem dX6_breakBook_10 : decode cX6_breakBook 10 = .ok (.iload_n 1, 1) := by decide +kernel
theorem dX6_breakBook_11 : decode cX6_breakBook 11 = .ok (.invokevirtual 259, 3) := by decide +kernel
theorem dX6_breakBook_14 : decode cX6_breakBook 14 = .ok (.aload_n 0, 1) := by decide +kernel
theorem dX6_breakBook_15 : decode cX6_breakBook 15 = .ok (.getfield 30, 3) := by decide +kernel
theorem dX6_breakBook_18 : decode cX6_breakBook 18 = .ok (.invokevirtual 262, 3) := by decide +kernel
theorem dX6_breakBook_21 : decode cX6_breakBook 21 = .ok (.return_, 1) := by decide +kernel
theorem dJ9_max_7cf53_0 : decode cJ9_max_7cf53 0 = .ok (.iload_n 0, 1) := by decide +kernel
theorem dJ9_max_7cf53_1 : decode cJ9_max_7cf53 1 = .ok (.iload_n 1, 1) := by decide +kernel
theorem dJ9_max_7cf53_2 : decode cJ9_max_7cf53 2 = .ok (.if_icmp .lt 7, 3) := by decide +kernel
theorem dJ9_max_7cf53_5 : decode cJ9_max_7cf53 5 = .ok (.iload_n 0, 1) := by decide +kernel
theorem dJ9_max_7cf53_6 : decode cJ9_max_7cf53 6 = .ok (.goto 4, 3) := by decide +kernel
theorem dJ9_max_7cf53_9 : decode cJ9_max_7cf53 9 = .ok (.iload_n 1, 1) := by decide +kernel
theorem dJ9_max_7cf53_10 : decode cJ9_max_7cf53 10 = .ok (.ireturn, 1) := by decide +kernel
theorem dJ9_min_7cf53_0 : decode cJ9_min_7cf53 0 = .ok (.iload_n 0, 1) := by decide +kernel
theorem dJ9_min_7cf53_1 : decode cJ9_min_7cf53 1 = .ok (.iload_n 1, 1) := by decide +kernel
theorem dJ9_min_7cf53_2 : decode cJ9_min_7cf53 2 = .ok (.if_icmp .gt 7, 3) := by decide +kernel
theorem dJ9_min_7cf53_5 : decode cJ9_min_7cf53 5 = .ok (.iload_n 0, 1) := by decide +kernel
theorem dJ9_min_7cf53_6 : decode cJ9_min_7cf53 6 = .ok (.goto 4, 3) := by decide +kernel
theorem dJ9_min_7cf53_9 : decode cJ9_min_7cf53 9 = .ok (.iload_n 1, 1) := by decide +kernel
theorem dJ9_min_7cf53_10 : decode cJ9_min_7cf53 10 = .ok (.ireturn, 1) := by decide +kernel
theorem dJ7_fill_53178_0 : decode cJ7_fill_53178 0 = .ok (.iconst 0, 1) := by decide +kernel
theorem dJ7_fill_53178_1 : decode cJ7_fill_53178 1 = .ok (.istore_n 2, 1) := by decide +kernel
theorem dJ7_fill_53178_2 : decode cJ7_fill_53178 2 = .ok (.aload_n 0, 1) := by decide +kernel
theorem dJ7_fill_53178_3 : decode cJ7_fill_53178 3 = .ok (.arraylength, 1) := by decide +kernel
theorem dJ7_fill_53178_4 : decode cJ7_fill_53178 4 = .ok (.istore_n 3, 1) := by decide +kernel
theorem dJ7_fill_53178_5 : decode cJ7_fill_53178 5 = .ok (.iload_n 2, 1) := by decide +kernel
theorem dJ7_fill_53178_6 : decode cJ7_fill_53178 6 = .ok (.iload_n 3, 1) := by decide +kernel
theorem dJ7_fill_53178_7 : decode cJ7_fill_53178 7 = .ok (.if_icmp .ge 13, 3) := by decide +kernel
theorem dJ7_fill_53178_10 : decode cJ7_fill_53178 10 = .ok (.aload_n 0, 1) := by decide +kernel
theorem dJ7_fill_53178_11 : decode cJ7_fill_53178 11 = .ok (.iload_n 2, 1) := by decide +kernel
theorem dJ7_fill_53178_12 : decode cJ7_fill_53178 12 = .ok (.iload_n 1, 1) := by decide +kernel
theorem dJ7_fill_53178_13 : decode cJ7_fill_53178 13 = .ok (.iastore, 1) := by decide +kernel
theorem dJ7_fill_53178_14 : decode cJ7_fill_53178 14 = .ok (.iinc 2 1, 3) := by decide +kernel
theorem dJ7_fill_53178_17 : decode cJ7_fill_53178 17 = .ok (.goto (-12), 3) := by decide +kernel
theorem dJ7_fill_53178_20 : decode cJ7_fill_53178 20 = .ok (.return_, 1) := by decide +kernel
end
section
theorem dX7_init_0 : decode cX7_init 0 = .ok (.aload_n 0, 1) := by decide +kernel
theorem dX7_init_1 : decode cX7_init 1 = .ok (.invokespecial 1, 3) := by decide +kernel
theorem dX7_init_4 : decode cX7_init 4 = .ok (.aload_n 0, 1) := by decide +kernel
theorem dX7_init_5 : decode cX7_init 5 = .ok (.bipush 12, 2) := by decide +kernel
theorem dX7_init_7 : decode cX7_init 7 = .ok (.newarray .int, 2) := by decide +kernel
theorem dX7_init_9 : decode cX7_init 9 = .ok (.putfield 7, 3) := by decide +kernel
theorem dX7_init_12 : decode cX7_init 12 = .ok (.aload_n 0, 1) := by decide +kernel
theorem dX7_init_13 : decode cX7_init 13 = .ok (.sipush 480, 3) := by decide +kernel
theorem dX7_init_16 : decode cX7_init 16 = .ok (.newarray .int, 2) := by decide +kernel
theorem dX7_init_18 : decode cX7_init 18 = .ok (.putfield 13, 3) := by decide +kernel
theorem dX7_init_21 : decode cX7_init 21 = .ok (.aload_n 0, 1) := by decide +kernel
theorem dX7_init_22 : decode cX7_init 22 = .ok (.sipush 480, 3) := by decide +kernel
theorem dX7_init_25 : decode cX7_init 25 = .ok (.newarray .int, 2) := by decide +kernel
theorem dX7_init_27 : decode cX7_init 27 = .ok (.putfield 16, 3) := by decide +kernel
theorem dX7_init_30 : decode cX7_init 30 = .ok (.aload_n 0, 1) := by decide +kernel
theorem dX7_init_31 : decode cX7_init 31 = .ok (.bipush 60, 2) := by decide +kernel
theorem dX7_init_33 : decode cX7_init 33 = .ok (.newarray .int, 2) := by decide +kernel
theorem dX7_init_35 : decode cX7_init 35 = .ok (.putfield 19, 3) := by decide +kernel
theorem dX7_init_38 : decode cX7_init 38 = .ok (.aload_n 0, 1) := by decide +kernel
theorem dX7_init_39 : decode cX7_init 39 = .ok (.bipush 60, 2) := by decide +kernel
theorem dX7_init_41 : decode cX7_init 41 = .ok (.newarray .int, 2) := by decide +kernel
theorem dX7_init_43 : decode cX7_init 43 = .ok (.putfield 22, 3) := by decide +kernel
theorem dX7_init_46 : decode cX7_init 46 = .ok (.aload_n 0, 1) := by decide +kernel
theorem dX7_init_47 : decode cX7_init 47 = .ok (.sipush 200, 3) := by decide +kernel
theorem dX7_init_50 : decode cX7_init 50 = .ok (.putfield 25, 3) := by decide +kernel
theorem dX7_init_53 : decode cX7_init 53 = .ok (.aload_n 0, 1) := by decide +kernel
theorem dX7_init_54 : decode cX7_init 54 = .ok (.iconst 3, 1) := by decide +kernel
theorem dX7_init_55 : decode cX7_init 55 = .ok (.putfield 29, 3) := by decide +kernel
theorem dX7_init_58 : decode cX7_init 58 = .ok (.aload_n 0, 1) := by decide +kernel
theorem dX7_init_59 : decode cX7_init 59 = .ok (.bipush 16, 2) := by decide +kernel
theorem dX7_init_61 : decode cX7_init 61 = .ok (.newarray .int, 2) := by decide +kernel
theorem dX7_init_63 : decode cX7_init 63 = .ok (.putfield 32, 3) := by decide +kernel
theorem dX7_init_66 : decode cX7_init 66 = .ok (.aload_n 0, 1) := by decide +kernel
theorem dX7_init_67 : decode cX7_init 67 = .ok (.bipush 16, 2) := by decide +kernel
theorem dX7_init_69 : decode cX7_init 69 = .ok (.newarray .int, 2) := by decide +kernel
theorem dX7_init_71 : decode cX7_init 71 = .ok (.putfield 35, 3) := by decide +kernel
theorem dX7_init_74 : decode cX7_init 74 = .ok (.aload_n 0, 1) := by decide +kernel
theorem dX7_init_75 : decode cX7_init 75 = .ok (.sipush 192, 3) := by decide +kernel
theorem dX7_init_78 : decode cX7_init 78 = .ok (.newarray .int, 2) := by decide +kernel
theorem dX7_init_80 : decode cX7_init 80 = .ok (.putfield 38, 3) := by decide +kernel
theorem dX7_init_83 : decode cX7_init 83 = .ok (.aload_n 0, 1) := by decide +kernel
theorem dX7_init_84 : decode cX7_init 84 = .ok (.sipush 360, 3) := by decide +kernel
theorem dX7_init_87 : decode cX7_init 87 = .ok (.newarray .int, 2) := by decide +kernel
theorem dX7_init_89 : decode cX7_init 89 = .ok (.putfield 41, 3) := by decide +kernel
theorem dX7_init_92 : decode cX7_init 92 = .ok (.aload_n 0, 1) := by decide +kernel
theorem dX7_init_93 : decode cX7_init 93 = .ok (.sipush 360, 3) := by decide +kernel
theorem dX7_init_96 : decode cX7_init 96 = .ok (.newarray .int, 2) := by decide +kernel
theorem dX7_init_98 : decode cX7_init 98 = .ok (.putfield 44, 3) := by decide +kernel
theorem dX7_init_101 : decode cX7_init 101 = .ok (.aload_n 0, 1) := by decide +kernel
theorem dX7_init_102 : decode cX7_init 102 = .ok (.sipush 2880, 3) := by decide +kernel
theorem dX7_init_105 : decode cX7_init 105 = .ok (.newarray .int, 2) := by decide +kernel
theorem dX7_init_107 : decode cX7_init 107 = .ok (.putfield 47, 3) := by decide +kernel
theorem dX7_init_110 : decode cX7_init 110 = .ok (.aload_n 0, 1) := by decide +kernel
theorem dX7_init_111 : decode cX7_init 111 = .ok (.sipush 2880, 3) := by decide +kernel
theorem dX7_init_114 : decode cX7_init 114 = .ok (.newarray .int, 2) := by decide +kernel
theorem dX7_init_116 : decode cX7_init 116 = .ok (.putfield 50, 3) := by decide +kernel
theorem dX7_init_119 : decode cX7_init 119 = .ok (.aload_n 0, 1) := by decide +kernel
theorem dX7_init_120 : decode cX7_init 120 = .ok (.bipush 12, 2) := by decide +kernel
theorem dX7_init_122 : decode cX7_init 122 = .ok (.newarray .int, 2) := by decide +kernel
theorem dX7_init_124 : decode cX7_init 124 = .ok (.putfield 53, 3) := by decide +kernel
theorem dX7_init_127 : decode cX7_init 127 = .ok (.aload_n 0, 1) := by decide +kernel
theorem dX7_init_128 : decode cX7_init 128 = .ok (.bipush 12, 2) := by decide +kernel
theorem dX7_init_130 : decode cX7_init 130 = .ok (.newarray .int, 2) := by decide +kernel
theorem dX7_init_132 : decode cX7_init 132 = .ok (.putfield 56, 3) := by decide +kernel
theorem dX7_init_135 : decode cX7_init 135 = .ok (.aload_n 0, 1) := by decide +kernel
theorem dX7_init_136 : decode cX7_init 136 = .ok (.bipush 12, 2) := by decide +kernel
theorem dX7_init_138 : decode cX7_init 138 = .ok (.newarray .int, 2) := by decide +kernel
theorem dX7_init_140 : decode cX7_init 140 = .ok (.putfield 59, 3) := by decide +kernel
theorem dX7_init_143 : decode cX7_init 143 = .ok (.aload_n 0, 1) := by decide +kernel
theorem dX7_init_144 : decode cX7_init 144 = .ok (.bipush 13, 2) := by decide +kernel
theorem dX7_init_146 : decode cX7_init 146 = .ok (.newarray .int, 2) := by decide +kernel
theorem dX7_init_148 : decode cX7_init 148 = .ok (.putfield 62, 3) := by decide +kernel
theorem dX7_init_151 : decode cX7_init 151 = .ok (.aload_n 0, 1) := by decide +kernel
theorem dX7_init_152 : decode cX7_init 152 = .ok (.sipush 400, 3) := by decide +kernel
theorem dX7_init_155 : decode cX7_init 155 = .ok (.newarray .int, 2) := by decide +kernel
theorem dX7_init_157 : decode cX7_init 157 = .ok (.putfield 65, 3) := by decide +kernel
theorem dX7_init_160 : decode cX7_init 160 = .ok (.aload_n 0, 1) := by decide +kernel
theorem dX7_init_161 : decode cX7_init 161 = .ok (.sipush 400, 3) := by decide +kernel
theorem dX7_init_164 : decode cX7_init 164 = .ok (.newarray .int, 2) := by decide +kernel
theorem dX7_init_166 : decode cX7_init 166 = .ok (.putfield 68, 3) := by decide +kernel
theorem dX7_init_169 : decode cX7_init 169 = .ok (.aload_n 0, 1) := by decide +kernel
theorem dX7_init_170 : decode cX7_init 170 = .ok (.sipush 400, 3) := by decide +kernel
theorem dX7_init_173 : decode cX7_init 173 = .ok (.newarray .int, 2) := by decide +kernel
theorem dX7_init_175 : decode cX7_init 175 = .ok (.putfield 71, 3) := by decide +kernel
theorem dX7_init_178 : decode cX7_init 178 = .ok (.aload_n 0, 1) := by decide +kernel
theorem dX7_init_179 : decode cX7_init 179 = .ok (.bipush 12, 2) := by decide +kernel
theorem dX7_init_181 : decode cX7_init 181 = .ok (.newarray .int, 2) := by decide +kernel
theorem dX7_init_183 : decode cX7_init 183 = .ok (.putfield 74, 3) := by decide +kernel
theorem dX7_init_186 : decode cX7_init 186 = .ok (.aload_n 0, 1) := by decide +kernel
theorem dX7_init_187 : decode cX7_init 187 = .ok (.bipush 12, 2) := by decide +kernel
theorem dX7_init_189 : decode cX7_init 189 = .ok (.newarray .int, 2) := by decide +kernel
theorem dX7_init_191 : decode cX7_init 191 = .ok (.putfield 77, 3) := by decide +kernel
theorem dX7_init_194 : decode cX7_init 194 = .ok (.aload_n 0, 1) := by decide +kernel
theorem dX7_init_195 : decode cX7_init 195 = .ok (.bipush 78, 2) := by decide +kernel
theorem dX7_init_197 : decode cX7_init 197 = .ok (.newarray .int, 2) := by decide +kernel
theorem dX7_init_199 : decode cX7_init 199 = .ok (.putfield 80, 3) := by decide +kernel
theorem dX7_init_202 : decode cX7_init 202 = .ok (.aload_n 0, 1) := by decide +kernel
theorem dX7_init_203 : decode cX7_init 203 = .ok (.bipush 78, 2) := by decide +kernel
theorem dX7_init_205 : decode cX7_init 205 = .ok (.newarray .int, 2) := by decide +kernel
theorem dX7_init_207 : decode cX7_init 207 = .ok (.putfield 83, 3) := by decide +kernel
theorem dX7_init_210 : decode cX7_init 210 = .ok (.aload_n 0, 1) := by decide +kernel
theorem dX7_init_211 : decode cX7_init 211 = .ok (.bipush 78, 2) := by decide +kernel
theorem dX7_init_213 : decode cX7_init 213 = .ok (.newarray .int, 2) := by decide +kernel
theorem dX7_init_215 : decode cX7_init 215 = .ok (.putfield 86, 3) := by decide +kernel
theorem dX7_init_218 : decode cX7_init 218 = .ok (.aload_n 0, 1) := by decide +kernel
theorem dX7_init_219 : decode cX7_init 219 = .ok (.bipush 12, 2) := by decide +kernel
theorem dX7_init_221 : decode cX7_init 221 = .ok (.newarray .int, 2) := by decide +kernel
theorem dX7_init_223 : decode cX7_init 223 = .ok (.putfield 89, 3) := by decide +kernel
theorem dX7_init_226 : decode cX7_init 226 = .ok (.return_, 1) := by decide +kernel
theorem dX7_thrown_0 : decode cX7_thrown 0 = .ok (.aload_n 0, 1) := by decide +kernel
theorem dX7_thrown_1 : decode cX7_thrown 1 = .ok (.getfield 92, 3) := by decide +kernel
theorem dX7_thrown_4 : decode cX7_thrown 4 = .ok (.ireturn, 1) := by decide +kernel
theorem dX7_in_0 : decode cX7_in 0 = .ok (.iload_n 0, 1) := by decide +kernel
theorem dX7_in_1 : decode cX7_in 1 = .ok (.iload_n 1, 1) := by decide +kernel
theorem dX7_in_2 : decode cX7_in 2 = .ok (.if_icmp .lt 12, 3) := by decide +kernel
theorem dX7_in_5 : decode cX7_in 5 = .ok (.iload_n 0, 1) := by decide +kernel
theorem dX7_in_6 : decode cX7_in 6 = .ok (.iload_n 2, 1) := by decide +kernel
theorem dX7_in_7 : decode cX7_in 7 = .ok (.if_icmp .gt 7, 3) := by decide +kernel
theorem dX7_in_10 : decode cX7_in 10 = .ok (.iconst 1, 1) := by decide +kernel
theorem dX7_in_11 : decode cX7_in 11 = .ok (.goto 4, 3) := by decide +kernel
theorem dX7_in_14 : decode cX7_in 14 = .ok (.iconst 0, 1) := by decide +kernel
theorem dX7_in_15 : decode cX7_in 15 = .ok (.ireturn, 1) := by decide +kernel
theorem dX7_goes_0 : decode cX7_goes 0 = .ok (.aload_n 0, 1) := by decide +kernel
theorem dX7_goes_1 : decode cX7_goes 1 = .ok (.iload_n 1, 1) := by decide +kernel
theorem dX7_goes_2 : decode cX7_goes 2 = .ok (.ifCond .ne 7, 3) := by decide +kernel
theorem dX7_goes_5 : decode cX7_goes 5 = .ok (.iconst 1, 1) := by decide +kernel
theorem dX7_goes_6 : decode cX7_goes 6 = .ok (.goto 20, 3) := by decide +kernel
theorem dX7_goes_9 : decode cX7_goes 9 = .ok (.iload_n 2, 1) := by decide +kernel
theorem dX7_goes_10 : decode cX7_goes 10 = .ok (.ifCond .ne 7, 3) := by decide +kernel
theorem dX7_goes_13 : decode cX7_goes 13 = .ok (.iconst 2, 1) := by decide +kernel
theorem dX7_goes_14 : decode cX7_goes 14 = .ok (.goto 12, 3) := by decide +kernel
theorem dX7_goes_17 : decode cX7_goes 17 = .ok (.iload_n 3, 1) := by decide +kernel
theorem dX7_goes_18 : decode cX7_goes 18 = .ok (.ifCond .eq 7, 3) := by decide +kernel
theorem dX7_goes_21 : decode cX7_goes 21 = .ok (.iconst 0, 1) := by decide +kernel
theorem dX7_goes_22 : decode cX7_goes 22 = .ok (.goto 4, 3) := by decide +kernel
theorem dX7_goes_25 : decode cX7_goes 25 = .ok (.iconst 3, 1) := by decide +kernel
theorem dX7_goes_26 : decode cX7_goes 26 = .ok (.putfield 92, 3) := by decide +kernel
theorem dX7_goes_29 : decode cX7_goes 29 = .ok (.aload_n 0, 1) := by decide +kernel
theorem dX7_goes_30 : decode cX7_goes 30 = .ok (.getfield 92, 3) := by decide +kernel
theorem dX7_goes_33 : decode cX7_goes 33 = .ok (.ifCond .ne 7, 3) := by decide +kernel
theorem dX7_goes_36 : decode cX7_goes 36 = .ok (.iconst 1, 1) := by decide +kernel
theorem dX7_goes_37 : decode cX7_goes 37 = .ok (.goto 4, 3) := by decide +kernel
theorem dX7_goes_40 : decode cX7_goes 40 = .ok (.iconst 0, 1) := by decide +kernel
theorem dX7_goes_41 : decode cX7_goes 41 = .ok (.ireturn, 1) := by decide +kernel
theorem dX7_isInstrument_0 : decode cX7_isInstrument 0 = .ok (.iload_n 0, 1) := by decide +kernel
theorem dX7_isInstrument_1 : decode cX7_isInstrument 1 = .ok (.iconst 0, 1) := by decide +kernel
theorem dX7_isInstrument_2 : decode cX7_isInstrument 2 = .ok (.iconst 4, 1) := by decide +kernel
theorem dX7_isInstrument_3 : decode cX7_isInstrument 3 = .ok (.invokestatic 95, 3) := by decide +kernel
theorem dX7_isInstrument_6 : decode cX7_isInstrument 6 = .ok (.ireturn, 1) := by decide +kernel
theorem dX7_isBar_0 : decode cX7_isBar 0 = .ok (.iload_n 1, 1) := by decide +kernel
theorem dX7_isBar_1 : decode cX7_isBar 1 = .ok (.iconst 0, 1) := by decide +kernel
theorem dX7_isBar_2 : decode cX7_isBar 2 = .ok (.aload_n 0, 1) := by decide +kernel
theorem dX7_isBar_3 : decode cX7_isBar 3 = .ok (.getfield 99, 3) := by decide +kernel
theorem dX7_isBar_6 : decode cX7_isBar 6 = .ok (.iconst 1, 1) := by decide +kernel
theorem dX7_isBar_7 : decode cX7_isBar 7 = .ok (.isub, 1) := by decide +kernel
theorem dX7_isBar_8 : decode cX7_isBar 8 = .ok (.invokestatic 95, 3) := by decide +kernel
theorem dX7_isBar_11 : decode cX7_isBar 11 = .ok (.ireturn, 1) := by decide +kernel
theorem dX7_isBook_0 : decode cX7_isBook 0 = .ok (.iload_n 0, 1) := by decide +kernel
theorem dX7_isBook_1 : decode cX7_isBook 1 = .ok (.iconst 0, 1) := by decide +kernel
theorem dX7_isBook_2 : decode cX7_isBook 2 = .ok (.iconst 5, 1) := by decide +kernel
theorem dX7_isBook_3 : decode cX7_isBook 3 = .ok (.invokestatic 95, 3) := by decide +kernel
theorem dX7_isBook_6 : decode cX7_isBook 6 = .ok (.ireturn, 1) := by decide +kernel
theorem dX7_isCopy_0 : decode cX7_isCopy 0 = .ok (.iload_n 1, 1) := by decide +kernel
theorem dX7_isCopy_1 : decode cX7_isCopy 1 = .ok (.iconst 0, 1) := by decide +kernel
theorem dX7_isCopy_2 : decode cX7_isCopy 2 = .ok (.aload_n 0, 1) := by decide +kernel
theorem dX7_isCopy_3 : decode cX7_isCopy 3 = .ok (.getfield 102, 3) := by decide +kernel
theorem dX7_isCopy_6 : decode cX7_isCopy 6 = .ok (.iconst 1, 1) := by decide +kernel
theorem dX7_isCopy_7 : decode cX7_isCopy 7 = .ok (.isub, 1) := by decide +kernel
theorem dX7_isCopy_8 : decode cX7_isCopy 8 = .ok (.invokestatic 95, 3) := by decide +kernel
theorem dX7_isCopy_11 : decode cX7_isCopy 11 = .ok (.ireturn, 1) := by decide +kernel
theorem dX7_cell_0 : decode cX7_cell 0 = .ok (.bipush 12, 2) := by decide +kernel
theorem dX7_cell_2 : decode cX7_cell 2 = .ok (.iload_n 0, 1) := by decide +kernel
theorem dX7_cell_3 : decode cX7_cell 3 = .ok (.imul, 1) := by decide +kernel
theorem dX7_cell_4 : decode cX7_cell 4 = .ok (.iload_n 1, 1) := by decide +kernel
theorem dX7_cell_5 : decode cX7_cell 5 = .ok (.iadd, 1) := by decide +kernel
theorem dX7_cell_6 : decode cX7_cell 6 = .ok (.ireturn, 1) := by decide +kernel
theorem dX7_bar_0 : decode cX7_bar 0 = .ok (.aload_n 0, 1) := by decide +kernel
theorem dX7_bar_1 : decode cX7_bar 1 = .ok (.iload_n 1, 1) := by decide +kernel
theorem dX7_bar_2 : decode cX7_bar 2 = .ok (.iconst 1, 1) := by decide +kernel
theorem dX7_bar_3 : decode cX7_bar 3 = .ok (.bipush 32, 2) := by decide +kernel
theorem dX7_bar_5 : decode cX7_bar 5 = .ok (.invokestatic 95, 3) := by decide +kernel
theorem dX7_bar_8 : decode cX7_bar 8 = .ok (.aload_n 0, 1) := by decide +kernel
theorem dX7_bar_9 : decode cX7_bar 9 = .ok (.getfield 99, 3) := by decide +kernel
theorem dX7_bar_12 : decode cX7_bar 12 = .ok (.bipush 12, 2) := by decide +kernel
theorem dX7_bar_14 : decode cX7_bar 14 = .ok (.if_icmp .ge 7, 3) := by decide +kernel
theorem dX7_bar_17 : decode cX7_bar 17 = .ok (.iconst 1, 1) := by decide +kernel
theorem dX7_bar_18 : decode cX7_bar 18 = .ok (.goto 4, 3) := by decide +kernel
theorem dX7_bar_21 : decode cX7_bar 21 = .ok (.iconst 0, 1) := by decide +kernel
theorem dX7_bar_22 : decode cX7_bar 22 = .ok (.iconst 1, 1) := by decide +kernel
theorem dX7_bar_23 : decode cX7_bar 23 = .ok (.invokevirtual 105, 3) := by decide +kernel
theorem dX7_bar_26 : decode cX7_bar 26 = .ok (.ifCond .ne 5, 3) := by decide +kernel
theorem dX7_bar_29 : decode cX7_bar 29 = .ok (.iconst 0, 1) := by decide +kernel
theorem dX7_bar_30 : decode cX7_bar 30 = .ok (.ireturn, 1) := by decide +kernel
theorem dX7_bar_31 : decode cX7_bar 31 = .ok (.aload_n 0, 1) := by decide +kernel
theorem dX7_bar_32 : decode cX7_bar 32 = .ok (.getfield 7, 3) := by decide +kernel
theorem dX7_bar_35 : decode cX7_bar 35 = .ok (.aload_n 0, 1) := by decide +kernel
theorem dX7_bar_36 : decode cX7_bar 36 = .ok (.getfield 99, 3) := by decide +kernel
theorem dX7_bar_39 : decode cX7_bar 39 = .ok (.iload_n 1, 1) := by decide +kernel
theorem dX7_bar_40 : decode cX7_bar 40 = .ok (.iastore, 1) := by decide +kernel
theorem dX7_bar_41 : decode cX7_bar 41 = .ok (.aload_n 0, 1) := by decide +kernel
theorem dX7_bar_42 : decode cX7_bar 42 = .ok (.dup, 1) := by decide +kernel
theorem dX7_bar_43 : decode cX7_bar 43 = .ok (.getfield 99, 3) := by decide +kernel
theorem dX7_bar_46 : decode cX7_bar 46 = .ok (.iconst 1, 1) := by decide +kernel
theorem dX7_bar_47 : decode cX7_bar 47 = .ok (.iadd, 1) := by decide +kernel
theorem dX7_bar_48 : decode cX7_bar 48 = .ok (.putfield 99, 3) := by decide +kernel
theorem dX7_bar_51 : decode cX7_bar 51 = .ok (.aload_n 0, 1) := by decide +kernel
theorem dX7_bar_52 : decode cX7_bar 52 = .ok (.getfield 99, 3) := by decide +kernel
theorem dX7_bar_55 : decode cX7_bar 55 = .ok (.iconst 1, 1) := by decide +kernel
theorem dX7_bar_56 : decode cX7_bar 56 = .ok (.isub, 1) := by decide +kernel
theorem dX7_bar_57 : decode cX7_bar 57 = .ok (.ireturn, 1) := by decide +kernel
theorem dX7_filled_0 : decode cX7_filled 0 = .ok (.iconst 0, 1) := by decide +kernel
theorem dX7_filled_1 : decode cX7_filled 1 = .ok (.istore_n 3, 1) := by decide +kernel
theorem dX7_filled_2 : decode cX7_filled 2 = .ok (.iconst 0, 1) := by decide +kernel
theorem dX7_filled_3 : decode cX7_filled 3 = .ok (.istore 4, 2) := by decide +kernel
theorem dX7_filled_5 : decode cX7_filled 5 = .ok (.iload 4, 2) := by decide +kernel
theorem dX7_filled_7 : decode cX7_filled 7 = .ok (.iload_n 2, 1) := by decide +kernel
theorem dX7_filled_8 : decode cX7_filled 8 = .ok (.if_icmp .ge 24, 3) := by decide +kernel
theorem dX7_filled_11 : decode cX7_filled 11 = .ok (.iload_n 3, 1) := by decide +kernel
theorem dX7_filled_12 : decode cX7_filled 12 = .ok (.aload_n 0, 1) := by decide +kernel
theorem dX7_filled_13 : decode cX7_filled 13 = .ok (.getfield 13, 3) := by decide +kernel
theorem dX7_filled_16 : decode cX7_filled 16 = .ok (.bipush 8, 2) := by decide +kernel
theorem dX7_filled_18 : decode cX7_filled 18 = .ok (.iload_n 1, 1) := by decide +kernel
theorem dX7_filled_19 : decode cX7_filled 19 = .ok (.imul, 1) := by decide +kernel
theorem dX7_filled_20 : decode cX7_filled 20 = .ok (.iload 4, 2) := by decide +kernel
theorem dX7_filled_22 : decode cX7_filled 22 = .ok (.iadd, 1) := by decide +kernel
theorem dX7_filled_23 : decode cX7_filled 23 = .ok (.iaload, 1) := by decide +kernel
theorem dX7_filled_24 : decode cX7_filled 24 = .ok (.iadd, 1) := by decide +kernel
theorem dX7_filled_25 : decode cX7_filled 25 = .ok (.istore_n 3, 1) := by decide +kernel
theorem dX7_filled_26 : decode cX7_filled 26 = .ok (.iinc 4 1, 3) := by decide +kernel
theorem dX7_filled_29 : decode cX7_filled 29 = .ok (.goto (-24), 3) := by decide +kernel
theorem dX7_filled_32 : decode cX7_filled 32 = .ok (.iload_n 3, 1) := by decide +kernel
theorem dX7_filled_33 : decode cX7_filled 33 = .ok (.ireturn, 1) := by decide +kernel
theorem dX7_note_0 : decode cX7_note 0 = .ok (.iload_n 1, 1) := by decide +kernel
theorem dX7_note_1 : decode cX7_note 1 = .ok (.invokestatic 109, 3) := by decide +kernel
theorem dX7_note_4 : decode cX7_note 4 = .ok (.ifCond .eq 15, 3) := by decide +kernel
theorem dX7_note_7 : decode cX7_note 7 = .ok (.aload_n 0, 1) := by decide +kernel
theorem dX7_note_8 : decode cX7_note 8 = .ok (.iload_n 2, 1) := by decide +kernel
theorem dX7_note_9 : decode cX7_note 9 = .ok (.invokevirtual 113, 3) := by decide +kernel
theorem dX7_note_12 : decode cX7_note 12 = .ok (.ifCond .eq 7, 3) := by decide +kernel
theorem dX7_note_15 : decode cX7_note 15 = .ok (.iconst 1, 1) := by decide +kernel
theorem dX7_note_16 : decode cX7_note 16 = .ok (.goto 4, 3) := by decide +kernel
theorem dX7_note_19 : decode cX7_note 19 = .ok (.iconst 0, 1) := by decide +kernel
theorem dX7_note_20 : decode cX7_note 20 = .ok (.istore 5, 2) := by decide +kernel
theorem dX7_note_22 : decode cX7_note 22 = .ok (.iload_n 3, 1) := by decide +kernel
theorem dX7_note_23 : decode cX7_note 23 = .ok (.iconst 1, 1) := by decide +kernel
theorem dX7_note_24 : decode cX7_note 24 = .ok (.bipush 32, 2) := by decide +kernel
theorem dX7_note_26 : decode cX7_note 26 = .ok (.invokestatic 95, 3) := by decide +kernel
theorem dX7_note_29 : decode cX7_note 29 = .ok (.ifCond .eq 18, 3) := by decide +kernel
theorem dX7_note_32 : decode cX7_note 32 = .ok (.iload 4, 2) := by decide +kernel
theorem dX7_note_34 : decode cX7_note 34 = .ok (.iconst 0, 1) := by decide +kernel
theorem dX7_note_35 : decode cX7_note 35 = .ok (.bipush 60, 2) := by decide +kernel
theorem dX7_note_37 : decode cX7_note 37 = .ok (.invokestatic 95, 3) := by decide +kernel
theorem dX7_note_40 : decode cX7_note 40 = .ok (.ifCond .eq 7, 3) := by decide +kernel
theorem dX7_note_43 : decode cX7_note 43 = .ok (.iconst 1, 1) := by decide +kernel
theorem dX7_note_44 : decode cX7_note 44 = .ok (.goto 4, 3) := by decide +kernel
theorem dX7_note_47 : decode cX7_note 47 = .ok (.iconst 0, 1) := by decide +kernel
theorem dX7_note_48 : decode cX7_note 48 = .ok (.istore 6, 2) := by decide +kernel
theorem dX7_note_50 : decode cX7_note 50 = .ok (.iload 5, 2) := by decide +kernel
theorem dX7_note_52 : decode cX7_note 52 = .ok (.ifCond .eq 11, 3) := by decide +kernel
theorem dX7_note_55 : decode cX7_note 55 = .ok (.iload_n 1, 1) := by decide +kernel
theorem dX7_note_56 : decode cX7_note 56 = .ok (.iload_n 2, 1) := by decide +kernel
theorem dX7_note_57 : decode cX7_note 57 = .ok (.invokestatic 116, 3) := by decide +kernel
theorem dX7_note_60 : decode cX7_note 60 = .ok (.goto 4, 3) := by decide +kernel
theorem dX7_note_63 : decode cX7_note 63 = .ok (.iconst 0, 1) := by decide +kernel
theorem dX7_note_64 : decode cX7_note 64 = .ok (.istore 7, 2) := by decide +kernel
theorem dX7_note_66 : decode cX7_note 66 = .ok (.iload 5, 2) := by decide +kernel
theorem dX7_note_68 : decode cX7_note 68 = .ok (.ifCond .eq 48, 3) := by decide +kernel
theorem dX7_note_71 : decode cX7_note 71 = .ok (.aload_n 0, 1) := by decide +kernel
theorem dX7_note_72 : decode cX7_note 72 = .ok (.getfield 19, 3) := by decide +kernel
theorem dX7_note_75 : decode cX7_note 75 = .ok (.iload 7, 2) := by decide +kernel
theorem dX7_note_77 : decode cX7_note 77 = .ok (.iaload, 1) := by decide +kernel
theorem dX7_note_78 : decode cX7_note 78 = .ok (.bipush 8, 2) := by decide +kernel
theorem dX7_note_80 : decode cX7_note 80 = .ok (.if_icmp .ge 36, 3) := by decide +kernel
theorem dX7_note_83 : decode cX7_note 83 = .ok (.iload 6, 2) := by decide +kernel
theorem dX7_note_85 : decode cX7_note 85 = .ok (.ifCond .eq 31, 3) := by decide +kernel
theorem dX7_note_88 : decode cX7_note 88 = .ok (.aload_n 0, 1) := by decide +kernel
theorem dX7_note_89 : decode cX7_note 89 = .ok (.iload 7, 2) := by decide +kernel
theorem dX7_note_91 : decode cX7_note 91 = .ok (.aload_n 0, 1) := by decide +kernel
theorem dX7_note_92 : decode cX7_note 92 = .ok (.getfield 19, 3) := by decide +kernel
theorem dX7_note_95 : decode cX7_note 95 = .ok (.iload 7, 2) := by decide +kernel
theorem dX7_note_97 : decode cX7_note 97 = .ok (.iaload, 1) := by decide +kernel
theorem dX7_note_98 : decode cX7_note 98 = .ok (.invokevirtual 120, 3) := by decide +kernel
theorem dX7_note_101 : decode cX7_note 101 = .ok (.iload_n 3, 1) := by decide +kernel
theorem dX7_note_102 : decode cX7_note 102 = .ok (.iadd, 1) := by decide +kernel
theorem dX7_note_103 : decode cX7_note 103 = .ok (.aload_n 0, 1) := by decide +kernel
theorem dX7_note_104 : decode cX7_note 104 = .ok (.getfield 7, 3) := by decide +kernel
theorem dX7_note_107 : decode cX7_note 107 = .ok (.iload_n 2, 1) := by decide +kernel
theorem dX7_note_108 : decode cX7_note 108 = .ok (.iaload, 1) := by decide +kernel
theorem dX7_note_109 : decode cX7_note 109 = .ok (.if_icmp .gt 7, 3) := by decide +kernel
theorem dX7_note_112 : decode cX7_note 112 = .ok (.iconst 1, 1) := by decide +kernel
theorem dX7_note_113 : decode cX7_note 113 = .ok (.goto 4, 3) := by decide +kernel
theorem dX7_note_116 : decode cX7_note 116 = .ok (.iconst 0, 1) := by decide +kernel
theorem dX7_note_117 : decode cX7_note 117 = .ok (.istore 8, 2) := by decide +kernel
theorem dX7_note_119 : decode cX7_note 119 = .ok (.aload_n 0, 1) := by decide +kernel
theorem dX7_note_120 : decode cX7_note 120 = .ok (.iload 5, 2) := by decide +kernel
theorem dX7_note_122 : decode cX7_note 122 = .ok (.iload 6, 2) := by decide +kernel
theorem dX7_note_124 : decode cX7_note 124 = .ok (.iload 8, 2) := by decide +kernel
theorem dX7_note_126 : decode cX7_note 126 = .ok (.invokevirtual 105, 3) := by decide +kernel
theorem dX7_note_129 : decode cX7_note 129 = .ok (.ifCond .ne 5, 3) := by decide +kernel
theorem dX7_note_132 : decode cX7_note 132 = .ok (.iconst 0, 1) := by decide +kernel
theorem dX7_note_133 : decode cX7_note 133 = .ok (.ireturn, 1) := by decide +kernel
theorem dX7_note_134 : decode cX7_note 134 = .ok (.aload_n 0, 1) := by decide +kernel
theorem dX7_note_135 : decode cX7_note 135 = .ok (.getfield 13, 3) := by decide +kernel
theorem dX7_note_138 : decode cX7_note 138 = .ok (.bipush 8, 2) := by decide +kernel
theorem dX7_note_140 : decode cX7_note 140 = .ok (.iload 7, 2) := by decide +kernel
theorem dX7_note_142 : decode cX7_note 142 = .ok (.imul, 1) := by decide +kernel
theorem dX7_note_143 : decode cX7_note 143 = .ok (.aload_n 0, 1) := by decide +kernel
theorem dX7_note_144 : decode cX7_note 144 = .ok (.getfield 19, 3) := by decide +kernel
theorem dX7_note_147 : decode cX7_note 147 = .ok (.iload 7, 2) := by decide +kernel
theorem dX7_note_149 : decode cX7_note 149 = .ok (.iaload, 1) := by decide +kernel
theorem dX7_note_150 : decode cX7_note 150 = .ok (.iadd, 1) := by decide +kernel
theorem dX7_note_151 : decode cX7_note 151 = .ok (.iload_n 3, 1) := by decide +kernel
theorem dX7_note_152 : decode cX7_note 152 = .ok (.iastore, 1) := by decide +kernel
theorem dX7_note_153 : decode cX7_note 153 = .ok (.aload_n 0, 1) := by decide +kernel
theorem dX7_note_154 : decode cX7_note 154 = .ok (.getfield 16, 3) := by decide +kernel
theorem dX7_note_157 : decode cX7_note 157 = .ok (.bipush 8, 2) := by decide +kernel
theorem dX7_note_159 : decode cX7_note 159 = .ok (.iload 7, 2) := by decide +kernel
theorem dX7_note_161 : decode cX7_note 161 = .ok (.imul, 1) := by decide +kernel
theorem dX7_note_162 : decode cX7_note 162 = .ok (.aload_n 0, 1) := by decide +kernel
theorem dX7_note_163 : decode cX7_note 163 = .ok (.getfield 19, 3) := by decide +kernel
theorem dX7_note_166 : decode cX7_note 166 = .ok (.iload 7, 2) := by decide +kernel
theorem dX7_note_168 : decode cX7_note 168 = .ok (.iaload, 1) := by decide +kernel
theorem dX7_note_169 : decode cX7_note 169 = .ok (.iadd, 1) := by decide +kernel
theorem dX7_note_170 : decode cX7_note 170 = .ok (.iload 4, 2) := by decide +kernel
theorem dX7_note_172 : decode cX7_note 172 = .ok (.iastore, 1) := by decide +kernel
theorem dX7_note_173 : decode cX7_note 173 = .ok (.aload_n 0, 1) := by decide +kernel
theorem dX7_note_174 : decode cX7_note 174 = .ok (.getfield 19, 3) := by decide +kernel
theorem dX7_note_177 : decode cX7_note 177 = .ok (.iload 7, 2) := by decide +kernel
theorem dX7_note_179 : decode cX7_note 179 = .ok (.dup2, 1) := by decide +kernel
theorem dX7_note_180 : decode cX7_note 180 = .ok (.iaload, 1) := by decide +kernel
theorem dX7_note_181 : decode cX7_note 181 = .ok (.iconst 1, 1) := by decide +kernel
theorem dX7_note_182 : decode cX7_note 182 = .ok (.iadd, 1) := by decide +kernel
theorem dX7_note_183 : decode cX7_note 183 = .ok (.iastore, 1) := by decide +kernel
theorem dX7_note_184 : decode cX7_note 184 = .ok (.aload_n 0, 1) := by decide +kernel
theorem dX7_note_185 : decode cX7_note 185 = .ok (.getfield 22, 3) := by decide +kernel
theorem dX7_note_188 : decode cX7_note 188 = .ok (.iload 7, 2) := by decide +kernel
theorem dX7_note_190 : decode cX7_note 190 = .ok (.dup2, 1) := by decide +kernel
theorem dX7_note_191 : decode cX7_note 191 = .ok (.iaload, 1) := by decide +kernel
theorem dX7_note_192 : decode cX7_note 192 = .ok (.iconst 1, 1) := by decide +kernel
theorem dX7_note_193 : decode cX7_note 193 = .ok (.iadd, 1) := by decide +kernel
theorem dX7_note_194 : decode cX7_note 194 = .ok (.iastore, 1) := by decide +kernel
theorem dX7_note_195 : decode cX7_note 195 = .ok (.aload_n 0, 1) := by decide +kernel
theorem dX7_note_196 : decode cX7_note 196 = .ok (.getfield 19, 3) := by decide +kernel
theorem dX7_note_199 : decode cX7_note 199 = .ok (.iload 7, 2) := by decide +kernel
theorem dX7_note_201 : decode cX7_note 201 = .ok (.iaload, 1) := by decide +kernel
theorem dX7_note_202 : decode cX7_note 202 = .ok (.ireturn, 1) := by decide +kernel
theorem dX7_isNote_0 : decode cX7_isNote 0 = .ok (.iload_n 1, 1) := by decide +kernel
theorem dX7_isNote_1 : decode cX7_isNote 1 = .ok (.invokestatic 109, 3) := by decide +kernel
theorem dX7_isNote_4 : decode cX7_isNote 4 = .ok (.ifCond .eq 35, 3) := by decide +kernel
theorem dX7_isNote_7 : decode cX7_isNote 7 = .ok (.aload_n 0, 1) := by decide +kernel
theorem dX7_isNote_8 : decode cX7_isNote 8 = .ok (.iload_n 2, 1) := by decide +kernel
theorem dX7_isNote_9 : decode cX7_isNote 9 = .ok (.invokevirtual 113, 3) := by decide +kernel
theorem dX7_isNote_12 : decode cX7_isNote 12 = .ok (.ifCond .eq 27, 3) := by decide +kernel
theorem dX7_isNote_15 : decode cX7_isNote 15 = .ok (.iload_n 3, 1) := by decide +kernel
theorem dX7_isNote_16 : decode cX7_isNote 16 = .ok (.iconst 0, 1) := by decide +kernel
theorem dX7_isNote_17 : decode cX7_isNote 17 = .ok (.aload_n 0, 1) := by decide +kernel
theorem dX7_isNote_18 : decode cX7_isNote 18 = .ok (.getfield 19, 3) := by decide +kernel
theorem dX7_isNote_21 : decode cX7_isNote 21 = .ok (.iload_n 1, 1) := by decide +kernel
theorem dX7_isNote_22 : decode cX7_isNote 22 = .ok (.iload_n 2, 1) := by decide +kernel
theorem dX7_isNote_23 : decode cX7_isNote 23 = .ok (.invokestatic 116, 3) := by decide +kernel
theorem dX7_isNote_26 : decode cX7_isNote 26 = .ok (.iaload, 1) := by decide +kernel
theorem dX7_isNote_27 : decode cX7_isNote 27 = .ok (.iconst 1, 1) := by decide +kernel
theorem dX7_isNote_28 : decode cX7_isNote 28 = .ok (.isub, 1) := by decide +kernel
theorem dX7_isNote_29 : decode cX7_isNote 29 = .ok (.invokestatic 95, 3) := by decide +kernel
theorem dX7_isNote_32 : decode cX7_isNote 32 = .ok (.ifCond .eq 7, 3) := by decide +kernel
theorem dX7_isNote_35 : decode cX7_isNote 35 = .ok (.iconst 1, 1) := by decide +kernel
theorem dX7_isNote_36 : decode cX7_isNote 36 = .ok (.goto 4, 3) := by decide +kernel
theorem dX7_isNote_39 : decode cX7_isNote 39 = .ok (.iconst 0, 1) := by decide +kernel
theorem dX7_isNote_40 : decode cX7_isNote 40 = .ok (.ireturn, 1) := by decide +kernel
theorem dX7_mend_0 : decode cX7_mend 0 = .ok (.aload_n 0, 1) := by decide +kernel
theorem dX7_mend_1 : decode cX7_mend 1 = .ok (.iload_n 1, 1) := by decide +kernel
theorem dX7_mend_2 : decode cX7_mend 2 = .ok (.iload_n 2, 1) := by decide +kernel
theorem dX7_mend_3 : decode cX7_mend 3 = .ok (.iload_n 3, 1) := by decide +kernel
theorem dX7_mend_4 : decode cX7_mend 4 = .ok (.invokevirtual 123, 3) := by decide +kernel
theorem dX7_mend_7 : decode cX7_mend 7 = .ok (.istore 5, 2) := by decide +kernel
theorem dX7_mend_9 : decode cX7_mend 9 = .ok (.aload_n 0, 1) := by decide +kernel
theorem dX7_mend_10 : decode cX7_mend 10 = .ok (.iload 5, 2) := by decide +kernel
theorem dX7_mend_12 : decode cX7_mend 12 = .ok (.iload 4, 2) := by decide +kernel
theorem dX7_mend_14 : decode cX7_mend 14 = .ok (.iconst 0, 1) := by decide +kernel
theorem dX7_mend_15 : decode cX7_mend 15 = .ok (.bipush 60, 2) := by decide +kernel
theorem dX7_mend_17 : decode cX7_mend 17 = .ok (.invokestatic 95, 3) := by decide +kernel
theorem dX7_mend_20 : decode cX7_mend 20 = .ok (.iconst 1, 1) := by decide +kernel
theorem dX7_mend_21 : decode cX7_mend 21 = .ok (.invokevirtual 105, 3) := by decide +kernel
theorem dX7_mend_24 : decode cX7_mend 24 = .ok (.ifCond .ne 5, 3) := by decide +kernel
theorem dX7_mend_27 : decode cX7_mend 27 = .ok (.iconst 0, 1) := by decide +kernel
theorem dX7_mend_28 : decode cX7_mend 28 = .ok (.ireturn, 1) := by decide +kernel
theorem dX7_mend_29 : decode cX7_mend 29 = .ok (.iload_n 1, 1) := by decide +kernel
theorem dX7_mend_30 : decode cX7_mend 30 = .ok (.iload_n 2, 1) := by decide +kernel
theorem dX7_mend_31 : decode cX7_mend 31 = .ok (.invokestatic 116, 3) := by decide +kernel
theorem dX7_mend_34 : decode cX7_mend 34 = .ok (.istore 6, 2) := by decide +kernel
theorem dX7_mend_36 : decode cX7_mend 36 = .ok (.aload_n 0, 1) := by decide +kernel
theorem dX7_mend_37 : decode cX7_mend 37 = .ok (.getfield 16, 3) := by decide +kernel
theorem dX7_mend_40 : decode cX7_mend 40 = .ok (.bipush 8, 2) := by decide +kernel
theorem dX7_mend_42 : decode cX7_mend 42 = .ok (.iload 6, 2) := by decide +kernel
theorem dX7_mend_44 : decode cX7_mend 44 = .ok (.imul, 1) := by decide +kernel
theorem dX7_mend_45 : decode cX7_mend 45 = .ok (.iload_n 3, 1) := by decide +kernel
theorem dX7_mend_46 : decode cX7_mend 46 = .ok (.iadd, 1) := by decide +kernel
theorem dX7_mend_47 : decode cX7_mend 47 = .ok (.iaload, 1) := by decide +kernel
theorem dX7_mend_48 : decode cX7_mend 48 = .ok (.istore 7, 2) := by decide +kernel
theorem dX7_mend_50 : decode cX7_mend 50 = .ok (.aload_n 0, 1) := by decide +kernel
theorem dX7_mend_51 : decode cX7_mend 51 = .ok (.getfield 16, 3) := by decide +kernel
theorem dX7_mend_54 : decode cX7_mend 54 = .ok (.bipush 8, 2) := by decide +kernel
theorem dX7_mend_56 : decode cX7_mend 56 = .ok (.iload 6, 2) := by decide +kernel
theorem dX7_mend_58 : decode cX7_mend 58 = .ok (.imul, 1) := by decide +kernel
theorem dX7_mend_59 : decode cX7_mend 59 = .ok (.iload_n 3, 1) := by decide +kernel
theorem dX7_mend_60 : decode cX7_mend 60 = .ok (.iadd, 1) := by decide +kernel
theorem dX7_mend_61 : decode cX7_mend 61 = .ok (.iload 4, 2) := by decide +kernel
theorem dX7_mend_63 : decode cX7_mend 63 = .ok (.iastore, 1) := by decide +kernel
theorem dX7_mend_64 : decode cX7_mend 64 = .ok (.aload_n 0, 1) := by decide +kernel
theorem dX7_mend_65 : decode cX7_mend 65 = .ok (.getfield 22, 3) := by decide +kernel
theorem dX7_mend_68 : decode cX7_mend 68 = .ok (.iload 6, 2) := by decide +kernel
theorem dX7_mend_70 : decode cX7_mend 70 = .ok (.dup2, 1) := by decide +kernel
theorem dX7_mend_71 : decode cX7_mend 71 = .ok (.iaload, 1) := by decide +kernel
theorem dX7_mend_72 : decode cX7_mend 72 = .ok (.iload 7, 2) := by decide +kernel
theorem dX7_mend_74 : decode cX7_mend 74 = .ok (.iload 4, 2) := by decide +kernel
theorem dX7_mend_76 : decode cX7_mend 76 = .ok (.if_icmp .ne 7, 3) := by decide +kernel
theorem dX7_mend_79 : decode cX7_mend 79 = .ok (.iconst 0, 1) := by decide +kernel
theorem dX7_mend_80 : decode cX7_mend 80 = .ok (.goto 4, 3) := by decide +kernel
theorem dX7_mend_83 : decode cX7_mend 83 = .ok (.iconst 1, 1) := by decide +kernel
theorem dX7_mend_84 : decode cX7_mend 84 = .ok (.iadd, 1) := by decide +kernel
theorem dX7_mend_85 : decode cX7_mend 85 = .ok (.iastore, 1) := by decide +kernel
theorem dX7_mend_86 : decode cX7_mend 86 = .ok (.iload 7, 2) := by decide +kernel
theorem dX7_mend_88 : decode cX7_mend 88 = .ok (.ireturn, 1) := by decide +kernel
theorem dX7_empty_0 : decode cX7_empty 0 = .ok (.aload_n 0, 1) := by decide +kernel
theorem dX7_empty_1 : decode cX7_empty 1 = .ok (.iload_n 1, 1) := by decide +kernel
theorem dX7_empty_2 : decode cX7_empty 2 = .ok (.invokestatic 109, 3) := by decide +kernel
theorem dX7_empty_5 : decode cX7_empty 5 = .ok (.ifCond .eq 15, 3) := by decide +kernel
theorem dX7_empty_8 : decode cX7_empty 8 = .ok (.aload_n 0, 1) := by decide +kernel
theorem dX7_empty_9 : decode cX7_empty 9 = .ok (.iload_n 2, 1) := by decide +kernel
theorem dX7_empty_10 : decode cX7_empty 10 = .ok (.invokevirtual 113, 3) := by decide +kernel
theorem dX7_empty_13 : decode cX7_empty 13 = .ok (.ifCond .eq 7, 3) := by decide +kernel
theorem dX7_empty_16 : decode cX7_empty 16 = .ok (.iconst 1, 1) := by decide +kernel
theorem dX7_empty_17 : decode cX7_empty 17 = .ok (.goto 4, 3) := by decide +kernel
theorem dX7_empty_20 : decode cX7_empty 20 = .ok (.iconst 0, 1) := by decide +kernel
theorem dX7_empty_21 : decode cX7_empty 21 = .ok (.iconst 1, 1) := by decide +kernel
theorem dX7_empty_22 : decode cX7_empty 22 = .ok (.iconst 1, 1) := by decide +kernel
theorem dX7_empty_23 : decode cX7_empty 23 = .ok (.invokevirtual 105, 3) := by decide +kernel
theorem dX7_empty_26 : decode cX7_empty 26 = .ok (.ifCond .ne 5, 3) := by decide +kernel
theorem dX7_empty_29 : decode cX7_empty 29 = .ok (.iconst 0, 1) := by decide +kernel
theorem dX7_empty_30 : decode cX7_empty 30 = .ok (.ireturn, 1) := by decide +kernel
theorem dX7_empty_31 : decode cX7_empty 31 = .ok (.iload_n 1, 1) := by decide +kernel
theorem dX7_empty_32 : decode cX7_empty 32 = .ok (.iload_n 2, 1) := by decide +kernel
theorem dX7_empty_33 : decode cX7_empty 33 = .ok (.invokestatic 116, 3) := by decide +kernel
theorem dX7_empty_36 : decode cX7_empty 36 = .ok (.istore_n 3, 1) := by decide +kernel
theorem dX7_empty_37 : decode cX7_empty 37 = .ok (.aload_n 0, 1) := by decide +kernel
theorem dX7_empty_38 : decode cX7_empty 38 = .ok (.getfield 19, 3) := by decide +kernel
theorem dX7_empty_41 : decode cX7_empty 41 = .ok (.iload_n 3, 1) := by decide +kernel
theorem dX7_empty_42 : decode cX7_empty 42 = .ok (.iaload, 1) := by decide +kernel
theorem dX7_empty_43 : decode cX7_empty 43 = .ok (.istore 4, 2) := by decide +kernel
theorem dX7_empty_45 : decode cX7_empty 45 = .ok (.aload_n 0, 1) := by decide +kernel
theorem dX7_empty_46 : decode cX7_empty 46 = .ok (.getfield 19, 3) := by decide +kernel
theorem dX7_empty_49 : decode cX7_empty 49 = .ok (.iload_n 3, 1) := by decide +kernel
theorem dX7_empty_50 : decode cX7_empty 50 = .ok (.iconst 0, 1) := by decide +kernel
theorem dX7_empty_51 : decode cX7_empty 51 = .ok (.iastore, 1) := by decide +kernel
theorem dX7_empty_52 : decode cX7_empty 52 = .ok (.aload_n 0, 1) := by decide +kernel
theorem dX7_empty_53 : decode cX7_empty 53 = .ok (.getfield 22, 3) := by decide +kernel
theorem dX7_empty_56 : decode cX7_empty 56 = .ok (.iload_n 3, 1) := by decide +kernel
theorem dX7_empty_57 : decode cX7_empty 57 = .ok (.dup2, 1) := by decide +kernel
theorem dX7_empty_58 : decode cX7_empty 58 = .ok (.iaload, 1) := by decide +kernel
theorem dX7_empty_59 : decode cX7_empty 59 = .ok (.iload 4, 2) := by decide +kernel
theorem dX7_empty_61 : decode cX7_empty 61 = .ok (.ifCond .ne 7, 3) := by decide +kernel
theorem dX7_empty_64 : decode cX7_empty 64 = .ok (.iconst 0, 1) := by decide +kernel
theorem dX7_empty_65 : decode cX7_empty 65 = .ok (.goto 4, 3) := by decide +kernel
theorem dX7_empty_68 : decode cX7_empty 68 = .ok (.iconst 1, 1) := by decide +kernel
theorem dX7_empty_69 : decode cX7_empty 69 = .ok (.iadd, 1) := by decide +kernel
theorem dX7_empty_70 : decode cX7_empty 70 = .ok (.iastore, 1) := by decide +kernel
theorem dX7_empty_71 : decode cX7_empty 71 = .ok (.iload 4, 2) := by decide +kernel
theorem dX7_empty_73 : decode cX7_empty 73 = .ok (.ireturn, 1) := by decide +kernel
theorem dX7_setPaper_0 : decode cX7_setPaper 0 = .ok (.aload_n 0, 1) := by decide +kernel
theorem dX7_setPaper_1 : decode cX7_setPaper 1 = .ok (.iload_n 1, 1) := by decide +kernel
theorem dX7_setPaper_2 : decode cX7_setPaper 2 = .ok (.bipush 80, 2) := by decide +kernel
theorem dX7_setPaper_4 : decode cX7_setPaper 4 = .ok (.sipush 500, 3) := by decide +kernel
theorem dX7_setPaper_7 : decode cX7_setPaper 7 = .ok (.invokestatic 95, 3) := by decide +kernel
theorem dX7_setPaper_10 : decode cX7_setPaper 10 = .ok (.ifCond .eq 17, 3) := by decide +kernel
theorem dX7_setPaper_13 : decode cX7_setPaper 13 = .ok (.iload_n 2, 1) := by decide +kernel
theorem dX7_setPaper_14 : decode cX7_setPaper 14 = .ok (.iconst 1, 1) := by decide +kernel
theorem dX7_setPaper_15 : decode cX7_setPaper 15 = .ok (.bipush 6, 2) := by decide +kernel
theorem dX7_setPaper_17 : decode cX7_setPaper 17 = .ok (.invokestatic 95, 3) := by decide +kernel
theorem dX7_setPaper_20 : decode cX7_setPaper 20 = .ok (.ifCond .eq 7, 3) := by decide +kernel
theorem dX7_setPaper_23 : decode cX7_setPaper 23 = .ok (.iconst 1, 1) := by decide +kernel
theorem dX7_setPaper_24 : decode cX7_setPaper 24 = .ok (.goto 4, 3) := by decide +kernel
theorem dX7_setPaper_27 : decode cX7_setPaper 27 = .ok (.iconst 0, 1) := by decide +kernel
theorem dX7_setPaper_28 : decode cX7_setPaper 28 = .ok (.iconst 1, 1) := by decide +kernel
theorem dX7_setPaper_29 : decode cX7_setPaper 29 = .ok (.iconst 1, 1) := by decide +kernel
theorem dX7_setPaper_30 : decode cX7_setPaper 30 = .ok (.invokevirtual 105, 3) := by decide +kernel
theorem dX7_setPaper_33 : decode cX7_setPaper 33 = .ok (.ifCond .ne 5, 3) := by decide +kernel
theorem dX7_setPaper_36 : decode cX7_setPaper 36 = .ok (.iconst 0, 1) := by decide +kernel
theorem dX7_setPaper_37 : decode cX7_setPaper 37 = .ok (.ireturn, 1) := by decide +kernel
theorem dX7_setPaper_38 : decode cX7_setPaper 38 = .ok (.aload_n 0, 1) := by decide +kernel
theorem dX7_setPaper_39 : decode cX7_setPaper 39 = .ok (.getfield 25, 3) := by decide +kernel
theorem dX7_setPaper_42 : decode cX7_setPaper 42 = .ok (.istore_n 3, 1) := by decide +kernel
theorem dX7_setPaper_43 : decode cX7_setPaper 43 = .ok (.aload_n 0, 1) := by decide +kernel
theorem dX7_setPaper_44 : decode cX7_setPaper 44 = .ok (.iload_n 1, 1) := by decide +kernel
theorem dX7_setPaper_45 : decode cX7_setPaper 45 = .ok (.putfield 25, 3) := by decide +kernel
theorem dX7_setPaper_48 : decode cX7_setPaper 48 = .ok (.aload_n 0, 1) := by decide +kernel
theorem dX7_setPaper_49 : decode cX7_setPaper 49 = .ok (.iload_n 2, 1) := by decide +kernel
theorem dX7_setPaper_50 : decode cX7_setPaper 50 = .ok (.putfield 29, 3) := by decide +kernel
theorem dX7_setPaper_53 : decode cX7_setPaper 53 = .ok (.iload_n 3, 1) := by decide +kernel
theorem dX7_setPaper_54 : decode cX7_setPaper 54 = .ok (.ireturn, 1) := by decide +kernel
theorem dX7_copy_0 : decode cX7_copy 0 = .ok (.aload_n 0, 1) := by decide +kernel
theorem dX7_copy_1 : decode cX7_copy 1 = .ok (.iload_n 1, 1) := by decide +kernel
theorem dX7_copy_2 : decode cX7_copy 2 = .ok (.invokestatic 109, 3) := by decide +kernel
theorem dX7_copy_5 : decode cX7_copy 5 = .ok (.aload_n 0, 1) := by decide +kernel
theorem dX7_copy_6 : decode cX7_copy 6 = .ok (.getfield 102, 3) := by decide +kernel
theorem dX7_copy_9 : decode cX7_copy 9 = .ok (.bipush 16, 2) := by decide +kernel
theorem dX7_copy_11 : decode cX7_copy 11 = .ok (.if_icmp .ge 7, 3) := by decide +kernel
theorem dX7_copy_14 : decode cX7_copy 14 = .ok (.iconst 1, 1) := by decide +kernel
theorem dX7_copy_15 : decode cX7_copy 15 = .ok (.goto 4, 3) := by decide +kernel
theorem dX7_copy_18 : decode cX7_copy 18 = .ok (.iconst 0, 1) := by decide +kernel
theorem dX7_copy_19 : decode cX7_copy 19 = .ok (.iconst 1, 1) := by decide +kernel
theorem dX7_copy_20 : decode cX7_copy 20 = .ok (.invokevirtual 105, 3) := by decide +kernel
theorem dX7_copy_23 : decode cX7_copy 23 = .ok (.ifCond .ne 5, 3) := by decide +kernel
theorem dX7_copy_26 : decode cX7_copy 26 = .ok (.iconst 0, 1) := by decide +kernel
theorem dX7_copy_27 : decode cX7_copy 27 = .ok (.ireturn, 1) := by decide +kernel
theorem dX7_copy_28 : decode cX7_copy 28 = .ok (.aload_n 0, 1) := by decide +kernel
theorem dX7_copy_29 : decode cX7_copy 29 = .ok (.getfield 32, 3) := by decide +kernel
theorem dX7_copy_32 : decode cX7_copy 32 = .ok (.aload_n 0, 1) := by decide +kernel
theorem dX7_copy_33 : decode cX7_copy 33 = .ok (.getfield 102, 3) := by decide +kernel
theorem dX7_copy_36 : decode cX7_copy 36 = .ok (.iload_n 1, 1) := by decide +kernel
theorem dX7_copy_37 : decode cX7_copy 37 = .ok (.iastore, 1) := by decide +kernel
theorem dX7_copy_38 : decode cX7_copy 38 = .ok (.aload_n 0, 1) := by decide +kernel
theorem dX7_copy_39 : decode cX7_copy 39 = .ok (.getfield 35, 3) := by decide +kernel
theorem dX7_copy_42 : decode cX7_copy 42 = .ok (.aload_n 0, 1) := by decide +kernel
theorem dX7_copy_43 : decode cX7_copy 43 = .ok (.getfield 102, 3) := by decide +kernel
theorem dX7_copy_46 : decode cX7_copy 46 = .ok (.iconst (-1), 1) := by decide +kernel
theorem dX7_copy_47 : decode cX7_copy 47 = .ok (.iastore, 1) := by decide +kernel
theorem dX7_copy_48 : decode cX7_copy 48 = .ok (.aload_n 0, 1) := by decide +kernel
theorem dX7_copy_49 : decode cX7_copy 49 = .ok (.dup, 1) := by decide +kernel
theorem dX7_copy_50 : decode cX7_copy 50 = .ok (.getfield 102, 3) := by decide +kernel
theorem dX7_copy_53 : decode cX7_copy 53 = .ok (.iconst 1, 1) := by decide +kernel
theorem dX7_copy_54 : decode cX7_copy 54 = .ok (.iadd, 1) := by decide +kernel
theorem dX7_copy_55 : decode cX7_copy 55 = .ok (.putfield 102, 3) := by decide +kernel
theorem dX7_copy_58 : decode cX7_copy 58 = .ok (.aload_n 0, 1) := by decide +kernel
theorem dX7_copy_59 : decode cX7_copy 59 = .ok (.getfield 102, 3) := by decide +kernel
theorem dX7_copy_62 : decode cX7_copy 62 = .ok (.iconst 1, 1) := by decide +kernel
theorem dX7_copy_63 : decode cX7_copy 63 = .ok (.isub, 1) := by decide +kernel
theorem dX7_copy_64 : decode cX7_copy 64 = .ok (.ireturn, 1) := by decide +kernel
theorem dX7_away_0 : decode cX7_away 0 = .ok (.iconst 0, 1) := by decide +kernel
theorem dX7_away_1 : decode cX7_away 1 = .ok (.istore_n 1, 1) := by decide +kernel
theorem dX7_away_2 : decode cX7_away 2 = .ok (.iconst 0, 1) := by decide +kernel
theorem dX7_away_3 : decode cX7_away 3 = .ok (.istore_n 2, 1) := by decide +kernel
theorem dX7_away_4 : decode cX7_away 4 = .ok (.iload_n 2, 1) := by decide +kernel
theorem dX7_away_5 : decode cX7_away 5 = .ok (.aload_n 0, 1) := by decide +kernel
theorem dX7_away_6 : decode cX7_away 6 = .ok (.getfield 102, 3) := by decide +kernel
theorem dX7_away_9 : decode cX7_away 9 = .ok (.if_icmp .ge 27, 3) := by decide +kernel
theorem dX7_away_12 : decode cX7_away 12 = .ok (.iload_n 1, 1) := by decide +kernel
theorem dX7_away_13 : decode cX7_away 13 = .ok (.aload_n 0, 1) := by decide +kernel
theorem dX7_away_14 : decode cX7_away 14 = .ok (.getfield 35, 3) := by decide +kernel
theorem dX7_away_17 : decode cX7_away 17 = .ok (.iload_n 2, 1) := by decide +kernel
theorem dX7_away_18 : decode cX7_away 18 = .ok (.iaload, 1) := by decide +kernel
theorem dX7_away_19 : decode cX7_away 19 = .ok (.iconst (-1), 1) := by decide +kernel
theorem dX7_away_20 : decode cX7_away 20 = .ok (.if_icmp .ne 7, 3) := by decide +kernel
theorem dX7_away_23 : decode cX7_away 23 = .ok (.iconst 0, 1) := by decide +kernel
theorem dX7_away_24 : decode cX7_away 24 = .ok (.goto 4, 3) := by decide +kernel
theorem dX7_away_27 : decode cX7_away 27 = .ok (.iconst 1, 1) := by decide +kernel
theorem dX7_away_28 : decode cX7_away 28 = .ok (.iadd, 1) := by decide +kernel
theorem dX7_away_29 : decode cX7_away 29 = .ok (.istore_n 1, 1) := by decide +kernel
theorem dX7_away_30 : decode cX7_away 30 = .ok (.iinc 2 1, 3) := by decide +kernel
theorem dX7_away_33 : decode cX7_away 33 = .ok (.goto (-29), 3) := by decide +kernel
theorem dX7_away_36 : decode cX7_away 36 = .ok (.iload_n 1, 1) := by decide +kernel
theorem dX7_away_37 : decode cX7_away 37 = .ok (.ireturn, 1) := by decide +kernel
theorem dX7_renews_0 : decode cX7_renews 0 = .ok (.iconst 0, 1) := by decide +kernel
theorem dX7_renews_1 : decode cX7_renews 1 = .ok (.istore_n 2, 1) := by decide +kernel
theorem dX7_renews_2 : decode cX7_renews 2 = .ok (.iload_n 2, 1) := by decide +kernel
theorem dX7_renews_3 : decode cX7_renews 3 = .ok (.bipush 12, 2) := by decide +kernel
theorem dX7_renews_5 : decode cX7_renews 5 = .ok (.if_icmp .ge 47, 3) := by decide +kernel
theorem dX7_renews_8 : decode cX7_renews 8 = .ok (.aload_n 0, 1) := by decide +kernel
theorem dX7_renews_9 : decode cX7_renews 9 = .ok (.getfield 38, 3) := by decide +kernel
theorem dX7_renews_12 : decode cX7_renews 12 = .ok (.bipush 12, 2) := by decide +kernel
theorem dX7_renews_14 : decode cX7_renews 14 = .ok (.iload_n 1, 1) := by decide +kernel
theorem dX7_renews_15 : decode cX7_renews 15 = .ok (.imul, 1) := by decide +kernel
theorem dX7_renews_16 : decode cX7_renews 16 = .ok (.iload_n 2, 1) := by decide +kernel
theorem dX7_renews_17 : decode cX7_renews 17 = .ok (.iadd, 1) := by decide +kernel
theorem dX7_renews_18 : decode cX7_renews 18 = .ok (.iload_n 2, 1) := by decide +kernel
theorem dX7_renews_19 : decode cX7_renews 19 = .ok (.aload_n 0, 1) := by decide +kernel
theorem dX7_renews_20 : decode cX7_renews 20 = .ok (.getfield 99, 3) := by decide +kernel
theorem dX7_renews_23 : decode cX7_renews 23 = .ok (.if_icmp .ge 21, 3) := by decide +kernel
theorem dX7_renews_26 : decode cX7_renews 26 = .ok (.aload_n 0, 1) := by decide +kernel
theorem dX7_renews_27 : decode cX7_renews 27 = .ok (.getfield 22, 3) := by decide +kernel
theorem dX7_renews_30 : decode cX7_renews 30 = .ok (.aload_n 0, 1) := by decide +kernel
theorem dX7_renews_31 : decode cX7_renews 31 = .ok (.getfield 32, 3) := by decide +kernel
theorem dX7_renews_34 : decode cX7_renews 34 = .ok (.iload_n 1, 1) := by decide +kernel
theorem dX7_renews_35 : decode cX7_renews 35 = .ok (.iaload, 1) := by decide +kernel
theorem dX7_renews_36 : decode cX7_renews 36 = .ok (.iload_n 2, 1) := by decide +kernel
theorem dX7_renews_37 : decode cX7_renews 37 = .ok (.invokestatic 116, 3) := by decide +kernel
theorem dX7_renews_40 : decode cX7_renews 40 = .ok (.iaload, 1) := by decide +kernel
theorem dX7_renews_41 : decode cX7_renews 41 = .ok (.goto 4, 3) := by decide +kernel
theorem dX7_renews_44 : decode cX7_renews 44 = .ok (.iconst (-1), 1) := by decide +kernel
theorem dX7_renews_45 : decode cX7_renews 45 = .ok (.iastore, 1) := by decide +kernel
theorem dX7_renews_46 : decode cX7_renews 46 = .ok (.iinc 2 1, 3) := by decide +kernel
theorem dX7_renews_49 : decode cX7_renews 49 = .ok (.goto (-47), 3) := by decide +kernel
theorem dX7_renews_52 : decode cX7_renews 52 = .ok (.return_, 1) := by decide +kernel
theorem dX7_lend_0 : decode cX7_lend 0 = .ok (.aload_n 0, 1) := by decide +kernel
theorem dX7_lend_1 : decode cX7_lend 1 = .ok (.iload_n 1, 1) := by decide +kernel
theorem dX7_lend_2 : decode cX7_lend 2 = .ok (.invokevirtual 126, 3) := by decide +kernel
theorem dX7_lend_5 : decode cX7_lend 5 = .ok (.ifCond .eq 16, 3) := by decide +kernel
theorem dX7_lend_8 : decode cX7_lend 8 = .ok (.iload_n 2, 1) := by decide +kernel
theorem dX7_lend_9 : decode cX7_lend 9 = .ok (.iconst 0, 1) := by decide +kernel
theorem dX7_lend_10 : decode cX7_lend 10 = .ok (.iconst 5, 1) := by decide +kernel
theorem dX7_lend_11 : decode cX7_lend 11 = .ok (.invokestatic 95, 3) := by decide +kernel
theorem dX7_lend_14 : decode cX7_lend 14 = .ok (.ifCond .eq 7, 3) := by decide +kernel
theorem dX7_lend_17 : decode cX7_lend 17 = .ok (.iconst 1, 1) := by decide +kernel
theorem dX7_lend_18 : decode cX7_lend 18 = .ok (.goto 4, 3) := by decide +kernel
theorem dX7_lend_21 : decode cX7_lend 21 = .ok (.iconst 0, 1) := by decide +kernel
theorem dX7_lend_22 : decode cX7_lend 22 = .ok (.istore_n 3, 1) := by decide +kernel
theorem dX7_lend_23 : decode cX7_lend 23 = .ok (.iload_n 3, 1) := by decide +kernel
theorem dX7_lend_24 : decode cX7_lend 24 = .ok (.ifCond .eq 17, 3) := by decide +kernel
theorem dX7_lend_27 : decode cX7_lend 27 = .ok (.aload_n 0, 1) := by decide +kernel
theorem dX7_lend_28 : decode cX7_lend 28 = .ok (.getfield 35, 3) := by decide +kernel
theorem dX7_lend_31 : decode cX7_lend 31 = .ok (.iload_n 1, 1) := by decide +kernel
theorem dX7_lend_32 : decode cX7_lend 32 = .ok (.iaload, 1) := by decide +kernel
theorem dX7_lend_33 : decode cX7_lend 33 = .ok (.iconst (-1), 1) := by decide +kernel
theorem dX7_lend_34 : decode cX7_lend 34 = .ok (.if_icmp .ne 7, 3) := by decide +kernel
theorem dX7_lend_37 : decode cX7_lend 37 = .ok (.iconst 1, 1) := by decide +kernel
theorem dX7_lend_38 : decode cX7_lend 38 = .ok (.goto 4, 3) := by decide +kernel
theorem dX7_lend_41 : decode cX7_lend 41 = .ok (.iconst 0, 1) := by decide +kernel
theorem dX7_lend_42 : decode cX7_lend 42 = .ok (.istore 4, 2) := by decide +kernel
theorem dX7_lend_44 : decode cX7_lend 44 = .ok (.iconst 0, 1) := by decide +kernel
theorem dX7_lend_45 : decode cX7_lend 45 = .ok (.istore 5, 2) := by decide +kernel
theorem dX7_lend_47 : decode cX7_lend 47 = .ok (.iload 5, 2) := by decide +kernel
theorem dX7_lend_49 : decode cX7_lend 49 = .ok (.aload_n 0, 1) := by decide +kernel
theorem dX7_lend_50 : decode cX7_lend 50 = .ok (.getfield 102, 3) := by decide +kernel
theorem dX7_lend_53 : decode cX7_lend 53 = .ok (.if_icmp .ge 52, 3) := by decide +kernel
theorem dX7_lend_56 : decode cX7_lend 56 = .ok (.iload_n 3, 1) := by decide +kernel
theorem dX7_lend_57 : decode cX7_lend 57 = .ok (.ifCond .eq 48, 3) := by decide +kernel
theorem dX7_lend_60 : decode cX7_lend 60 = .ok (.iload 4, 2) := by decide +kernel
theorem dX7_lend_62 : decode cX7_lend 62 = .ok (.ifCond .eq 34, 3) := by decide +kernel
theorem dX7_lend_65 : decode cX7_lend 65 = .ok (.aload_n 0, 1) := by decide +kernel
theorem dX7_lend_66 : decode cX7_lend 66 = .ok (.getfield 35, 3) := by decide +kernel
theorem dX7_lend_69 : decode cX7_lend 69 = .ok (.iload 5, 2) := by decide +kernel
theorem dX7_lend_71 : decode cX7_lend 71 = .ok (.iaload, 1) := by decide +kernel
theorem dX7_lend_72 : decode cX7_lend 72 = .ok (.iload_n 2, 1) := by decide +kernel
theorem dX7_lend_73 : decode cX7_lend 73 = .ok (.if_icmp .ne 19, 3) := by decide +kernel
theorem dX7_lend_76 : decode cX7_lend 76 = .ok (.aload_n 0, 1) := by decide +kernel
theorem dX7_lend_77 : decode cX7_lend 77 = .ok (.getfield 32, 3) := by decide +kernel
theorem dX7_lend_80 : decode cX7_lend 80 = .ok (.iload 5, 2) := by decide +kernel
theorem dX7_lend_82 : decode cX7_lend 82 = .ok (.iaload, 1) := by decide +kernel
theorem dX7_lend_83 : decode cX7_lend 83 = .ok (.aload_n 0, 1) := by decide +kernel
theorem dX7_lend_84 : decode cX7_lend 84 = .ok (.getfield 32, 3) := by decide +kernel
theorem dX7_lend_87 : decode cX7_lend 87 = .ok (.iload_n 1, 1) := by decide +kernel
theorem dX7_lend_88 : decode cX7_lend 88 = .ok (.iaload, 1) := by decide +kernel
theorem dX7_lend_89 : decode cX7_lend 89 = .ok (.if_icmp .eq 7, 3) := by decide +kernel
theorem dX7_lend_92 : decode cX7_lend 92 = .ok (.iconst 1, 1) := by decide +kernel
theorem dX7_lend_93 : decode cX7_lend 93 = .ok (.goto 4, 3) := by decide +kernel
theorem dX7_lend_96 : decode cX7_lend 96 = .ok (.iconst 0, 1) := by decide +kernel
theorem dX7_lend_97 : decode cX7_lend 97 = .ok (.istore 4, 2) := by decide +kernel
theorem dX7_lend_99 : decode cX7_lend 99 = .ok (.iinc 5 1, 3) := by decide +kernel
theorem dX7_lend_102 : decode cX7_lend 102 = .ok (.goto (-55), 3) := by decide +kernel
theorem dX7_lend_105 : decode cX7_lend 105 = .ok (.aload_n 0, 1) := by decide +kernel
theorem dX7_lend_106 : decode cX7_lend 106 = .ok (.iload_n 3, 1) := by decide +kernel
theorem dX7_lend_107 : decode cX7_lend 107 = .ok (.iload 4, 2) := by decide +kernel
theorem dX7_lend_109 : decode cX7_lend 109 = .ok (.iconst 1, 1) := by decide +kernel
theorem dX7_lend_110 : decode cX7_lend 110 = .ok (.invokevirtual 105, 3) := by decide +kernel
theorem dX7_lend_113 : decode cX7_lend 113 = .ok (.ifCond .ne 5, 3) := by decide +kernel
theorem dX7_lend_116 : decode cX7_lend 116 = .ok (.iconst 0, 1) := by decide +kernel
theorem dX7_lend_117 : decode cX7_lend 117 = .ok (.ireturn, 1) := by decide +kernel
theorem dX7_lend_118 : decode cX7_lend 118 = .ok (.aload_n 0, 1) := by decide +kernel
theorem dX7_lend_119 : decode cX7_lend 119 = .ok (.getfield 35, 3) := by decide +kernel
theorem dX7_lend_122 : decode cX7_lend 122 = .ok (.iload_n 1, 1) := by decide +kernel
theorem dX7_lend_123 : decode cX7_lend 123 = .ok (.iload_n 2, 1) := by decide +kernel
theorem dX7_lend_124 : decode cX7_lend 124 = .ok (.iastore, 1) := by decide +kernel
theorem dX7_lend_125 : decode cX7_lend 125 = .ok (.aload_n 0, 1) := by decide +kernel
theorem dX7_lend_126 : decode cX7_lend 126 = .ok (.iload_n 1, 1) := by decide +kernel
theorem dX7_lend_127 : decode cX7_lend 127 = .ok (.invokevirtual 129, 3) := by decide +kernel
theorem dX7_lend_130 : decode cX7_lend 130 = .ok (.aload_n 0, 1) := by decide +kernel
theorem dX7_lend_131 : decode cX7_lend 131 = .ok (.invokevirtual 133, 3) := by decide +kernel
theorem dX7_lend_134 : decode cX7_lend 134 = .ok (.ireturn, 1) := by decide +kernel
theorem dX7_owes_0 : decode cX7_owes 0 = .ok (.aload_n 0, 1) := by decide +kernel
theorem dX7_owes_1 : decode cX7_owes 1 = .ok (.getfield 35, 3) := by decide +kernel
theorem dX7_owes_4 : decode cX7_owes 4 = .ok (.iload_n 1, 1) := by decide +kernel
theorem dX7_owes_5 : decode cX7_owes 5 = .ok (.iaload, 1) := by decide +kernel
theorem dX7_owes_6 : decode cX7_owes 6 = .ok (.iconst (-1), 1) := by decide +kernel
theorem dX7_owes_7 : decode cX7_owes 7 = .ok (.if_icmp .eq 36, 3) := by decide +kernel
theorem dX7_owes_10 : decode cX7_owes 10 = .ok (.aload_n 0, 1) := by decide +kernel
theorem dX7_owes_11 : decode cX7_owes 11 = .ok (.getfield 38, 3) := by decide +kernel
theorem dX7_owes_14 : decode cX7_owes 14 = .ok (.bipush 12, 2) := by decide +kernel
theorem dX7_owes_16 : decode cX7_owes 16 = .ok (.iload_n 1, 1) := by decide +kernel
theorem dX7_owes_17 : decode cX7_owes 17 = .ok (.imul, 1) := by decide +kernel
theorem dX7_owes_18 : decode cX7_owes 18 = .ok (.iload_n 2, 1) := by decide +kernel
theorem dX7_owes_19 : decode cX7_owes 19 = .ok (.iadd, 1) := by decide +kernel
theorem dX7_owes_20 : decode cX7_owes 20 = .ok (.iaload, 1) := by decide +kernel
theorem dX7_owes_21 : decode cX7_owes 21 = .ok (.aload_n 0, 1) := by decide +kernel
theorem dX7_owes_22 : decode cX7_owes 22 = .ok (.getfield 22, 3) := by decide +kernel
theorem dX7_owes_25 : decode cX7_owes 25 = .ok (.aload_n 0, 1) := by decide +kernel
theorem dX7_owes_26 : decode cX7_owes 26 = .ok (.getfield 32, 3) := by decide +kernel
theorem dX7_owes_29 : decode cX7_owes 29 = .ok (.iload_n 1, 1) := by decide +kernel
theorem dX7_owes_30 : decode cX7_owes 30 = .ok (.iaload, 1) := by decide +kernel
theorem dX7_owes_31 : decode cX7_owes 31 = .ok (.iload_n 2, 1) := by decide +kernel
theorem dX7_owes_32 : decode cX7_owes 32 = .ok (.invokestatic 116, 3) := by decide +kernel
theorem dX7_owes_35 : decode cX7_owes 35 = .ok (.iaload, 1) := by decide +kernel
theorem dX7_owes_36 : decode cX7_owes 36 = .ok (.if_icmp .eq 7, 3) := by decide +kernel
theorem dX7_owes_39 : decode cX7_owes 39 = .ok (.iconst 1, 1) := by decide +kernel
theorem dX7_owes_40 : decode cX7_owes 40 = .ok (.goto 4, 3) := by decide +kernel
theorem dX7_owes_43 : decode cX7_owes 43 = .ok (.iconst 0, 1) := by decide +kernel
theorem dX7_owes_44 : decode cX7_owes 44 = .ok (.ireturn, 1) := by decide +kernel
theorem dX7_owedBy_0 : decode cX7_owedBy 0 = .ok (.iconst 0, 1) := by decide +kernel
theorem dX7_owedBy_1 : decode cX7_owedBy 1 = .ok (.istore_n 2, 1) := by decide +kernel
theorem dX7_owedBy_2 : decode cX7_owedBy 2 = .ok (.iconst 0, 1) := by decide +kernel
theorem dX7_owedBy_3 : decode cX7_owedBy 3 = .ok (.istore_n 3, 1) := by decide +kernel
theorem dX7_owedBy_4 : decode cX7_owedBy 4 = .ok (.iload_n 3, 1) := by decide +kernel
theorem dX7_owedBy_5 : decode cX7_owedBy 5 = .ok (.aload_n 0, 1) := by decide +kernel
theorem dX7_owedBy_6 : decode cX7_owedBy 6 = .ok (.getfield 99, 3) := by decide +kernel
theorem dX7_owedBy_9 : decode cX7_owedBy 9 = .ok (.if_icmp .ge 26, 3) := by decide +kernel
theorem dX7_owedBy_12 : decode cX7_owedBy 12 = .ok (.iload_n 2, 1) := by decide +kernel
theorem dX7_owedBy_13 : decode cX7_owedBy 13 = .ok (.aload_n 0, 1) := by decide +kernel
theorem dX7_owedBy_14 : decode cX7_owedBy 14 = .ok (.iload_n 1, 1) := by decide +kernel
theorem dX7_owedBy_15 : decode cX7_owedBy 15 = .ok (.iload_n 3, 1) := by decide +kernel
theorem dX7_owedBy_16 : decode cX7_owedBy 16 = .ok (.invokevirtual 137, 3) := by decide +kernel
theorem dX7_owedBy_19 : decode cX7_owedBy 19 = .ok (.ifCond .eq 7, 3) := by decide +kernel
theorem dX7_owedBy_22 : decode cX7_owedBy 22 = .ok (.iconst 1, 1) := by decide +kernel
theorem dX7_owedBy_23 : decode cX7_owedBy 23 = .ok (.goto 4, 3) := by decide +kernel
theorem dX7_owedBy_26 : decode cX7_owedBy 26 = .ok (.iconst 0, 1) := by decide +kernel
theorem dX7_owedBy_27 : decode cX7_owedBy 27 = .ok (.iadd, 1) := by decide +kernel
theorem dX7_owedBy_28 : decode cX7_owedBy 28 = .ok (.istore_n 2, 1) := by decide +kernel
theorem dX7_owedBy_29 : decode cX7_owedBy 29 = .ok (.iinc 3 1, 3) := by decide +kernel
theorem dX7_owedBy_32 : decode cX7_owedBy 32 = .ok (.goto (-28), 3) := by decide +kernel
theorem dX7_owedBy_35 : decode cX7_owedBy 35 = .ok (.iload_n 2, 1) := by decide +kernel
theorem dX7_owedBy_36 : decode cX7_owedBy 36 = .ok (.ireturn, 1) := by decide +kernel
theorem dX7_isAway_0 : decode cX7_isAway 0 = .ok (.aload_n 0, 1) := by decide +kernel
theorem dX7_isAway_1 : decode cX7_isAway 1 = .ok (.iload_n 1, 1) := by decide +kernel
theorem dX7_isAway_2 : decode cX7_isAway 2 = .ok (.invokevirtual 126, 3) := by decide +kernel
theorem dX7_isAway_5 : decode cX7_isAway 5 = .ok (.ifCond .eq 17, 3) := by decide +kernel
theorem dX7_isAway_8 : decode cX7_isAway 8 = .ok (.aload_n 0, 1) := by decide +kernel
theorem dX7_isAway_9 : decode cX7_isAway 9 = .ok (.getfield 35, 3) := by decide +kernel
theorem dX7_isAway_12 : decode cX7_isAway 12 = .ok (.iload_n 1, 1) := by decide +kernel
theorem dX7_isAway_13 : decode cX7_isAway 13 = .ok (.iaload, 1) := by decide +kernel
theorem dX7_isAway_14 : decode cX7_isAway 14 = .ok (.iconst (-1), 1) := by decide +kernel
theorem dX7_isAway_15 : decode cX7_isAway 15 = .ok (.if_icmp .eq 7, 3) := by decide +kernel
theorem dX7_isAway_18 : decode cX7_isAway 18 = .ok (.iconst 1, 1) := by decide +kernel
theorem dX7_isAway_19 : decode cX7_isAway 19 = .ok (.goto 4, 3) := by decide +kernel
theorem dX7_isAway_22 : decode cX7_isAway 22 = .ok (.iconst 0, 1) := by decide +kernel
theorem dX7_isAway_23 : decode cX7_isAway 23 = .ok (.ireturn, 1) := by decide +kernel
theorem dX7_giveBack_0 : decode cX7_giveBack 0 = .ok (.aload_n 0, 1) := by decide +kernel
theorem dX7_giveBack_1 : decode cX7_giveBack 1 = .ok (.aload_n 0, 1) := by decide +kernel
theorem dX7_giveBack_2 : decode cX7_giveBack 2 = .ok (.iload_n 1, 1) := by decide +kernel
theorem dX7_giveBack_3 : decode cX7_giveBack 3 = .ok (.invokevirtual 126, 3) := by decide +kernel
theorem dX7_giveBack_6 : decode cX7_giveBack 6 = .ok (.aload_n 0, 1) := by decide +kernel
theorem dX7_giveBack_7 : decode cX7_giveBack 7 = .ok (.iload_n 1, 1) := by decide +kernel
theorem dX7_giveBack_8 : decode cX7_giveBack 8 = .ok (.invokevirtual 141, 3) := by decide +kernel
theorem dX7_giveBack_11 : decode cX7_giveBack 11 = .ok (.iconst 1, 1) := by decide +kernel
theorem dX7_giveBack_12 : decode cX7_giveBack 12 = .ok (.invokevirtual 105, 3) := by decide +kernel
theorem dX7_giveBack_15 : decode cX7_giveBack 15 = .ok (.ifCond .ne 5, 3) := by decide +kernel
theorem dX7_giveBack_18 : decode cX7_giveBack 18 = .ok (.iconst 0, 1) := by decide +kernel
theorem dX7_giveBack_19 : decode cX7_giveBack 19 = .ok (.ireturn, 1) := by decide +kernel
theorem dX7_giveBack_20 : decode cX7_giveBack 20 = .ok (.aload_n 0, 1) := by decide +kernel
theorem dX7_giveBack_21 : decode cX7_giveBack 21 = .ok (.iload_n 1, 1) := by decide +kernel
theorem dX7_giveBack_22 : decode cX7_giveBack 22 = .ok (.invokevirtual 144, 3) := by decide +kernel
theorem dX7_giveBack_25 : decode cX7_giveBack 25 = .ok (.istore_n 2, 1) := by decide +kernel
theorem dX7_giveBack_26 : decode cX7_giveBack 26 = .ok (.aload_n 0, 1) := by decide +kernel
theorem dX7_giveBack_27 : decode cX7_giveBack 27 = .ok (.getfield 35, 3) := by decide +kernel
theorem dX7_giveBack_30 : decode cX7_giveBack 30 = .ok (.iload_n 1, 1) := by decide +kernel
theorem dX7_giveBack_31 : decode cX7_giveBack 31 = .ok (.iconst (-1), 1) := by decide +kernel
theorem dX7_giveBack_32 : decode cX7_giveBack 32 = .ok (.iastore, 1) := by decide +kernel
theorem dX7_giveBack_33 : decode cX7_giveBack 33 = .ok (.iload_n 2, 1) := by decide +kernel
theorem dX7_giveBack_34 : decode cX7_giveBack 34 = .ok (.ireturn, 1) := by decide +kernel
theorem dX7_paste_0 : decode cX7_paste 0 = .ok (.aload_n 0, 1) := by decide +kernel
theorem dX7_paste_1 : decode cX7_paste 1 = .ok (.aload_n 0, 1) := by decide +kernel
theorem dX7_paste_2 : decode cX7_paste 2 = .ok (.iload_n 1, 1) := by decide +kernel
theorem dX7_paste_3 : decode cX7_paste 3 = .ok (.invokevirtual 126, 3) := by decide +kernel
theorem dX7_paste_6 : decode cX7_paste 6 = .ok (.aload_n 0, 1) := by decide +kernel
theorem dX7_paste_7 : decode cX7_paste 7 = .ok (.iload_n 1, 1) := by decide +kernel
theorem dX7_paste_8 : decode cX7_paste 8 = .ok (.invokevirtual 141, 3) := by decide +kernel
theorem dX7_paste_11 : decode cX7_paste 11 = .ok (.iconst 1, 1) := by decide +kernel
theorem dX7_paste_12 : decode cX7_paste 12 = .ok (.invokevirtual 105, 3) := by decide +kernel
theorem dX7_paste_15 : decode cX7_paste 15 = .ok (.ifCond .ne 5, 3) := by decide +kernel
theorem dX7_paste_18 : decode cX7_paste 18 = .ok (.iconst 0, 1) := by decide +kernel
theorem dX7_paste_19 : decode cX7_paste 19 = .ok (.ireturn, 1) := by decide +kernel
theorem dX7_paste_20 : decode cX7_paste 20 = .ok (.aload_n 0, 1) := by decide +kernel
theorem dX7_paste_21 : decode cX7_paste 21 = .ok (.iload_n 1, 1) := by decide +kernel
theorem dX7_paste_22 : decode cX7_paste 22 = .ok (.invokevirtual 144, 3) := by decide +kernel
theorem dX7_paste_25 : decode cX7_paste 25 = .ok (.istore_n 2, 1) := by decide +kernel
theorem dX7_paste_26 : decode cX7_paste 26 = .ok (.aload_n 0, 1) := by decide +kernel
theorem dX7_paste_27 : decode cX7_paste 27 = .ok (.iload_n 1, 1) := by decide +kernel
theorem dX7_paste_28 : decode cX7_paste 28 = .ok (.invokevirtual 129, 3) := by decide +kernel
theorem dX7_paste_31 : decode cX7_paste 31 = .ok (.iload_n 2, 1) := by decide +kernel
theorem dX7_paste_32 : decode cX7_paste 32 = .ok (.ireturn, 1) := by decide +kernel
theorem dX7_mark_0 : decode cX7_mark 0 = .ok (.aload_n 0, 1) := by decide +kernel
theorem dX7_mark_1 : decode cX7_mark 1 = .ok (.iload_n 1, 1) := by decide +kernel
theorem dX7_mark_2 : decode cX7_mark 2 = .ok (.invokevirtual 126, 3) := by decide +kernel
theorem dX7_mark_5 : decode cX7_mark 5 = .ok (.ifCond .eq 15, 3) := by decide +kernel
theorem dX7_mark_8 : decode cX7_mark 8 = .ok (.aload_n 0, 1) := by decide +kernel
theorem dX7_mark_9 : decode cX7_mark 9 = .ok (.iload_n 2, 1) := by decide +kernel
theorem dX7_mark_10 : decode cX7_mark 10 = .ok (.invokevirtual 113, 3) := by decide +kernel
theorem dX7_mark_13 : decode cX7_mark 13 = .ok (.ifCond .eq 7, 3) := by decide +kernel
theorem dX7_mark_16 : decode cX7_mark 16 = .ok (.iconst 1, 1) := by decide +kernel
theorem dX7_mark_17 : decode cX7_mark 17 = .ok (.goto 4, 3) := by decide +kernel
theorem dX7_mark_20 : decode cX7_mark 20 = .ok (.iconst 0, 1) := by decide +kernel
theorem dX7_mark_21 : decode cX7_mark 21 = .ok (.istore 4, 2) := by decide +kernel
theorem dX7_mark_23 : decode cX7_mark 23 = .ok (.iload 4, 2) := by decide +kernel
theorem dX7_mark_25 : decode cX7_mark 25 = .ok (.ifCond .eq 32, 3) := by decide +kernel
theorem dX7_mark_28 : decode cX7_mark 28 = .ok (.aload_n 0, 1) := by decide +kernel
theorem dX7_mark_29 : decode cX7_mark 29 = .ok (.getfield 35, 3) := by decide +kernel
theorem dX7_mark_32 : decode cX7_mark 32 = .ok (.iload_n 1, 1) := by decide +kernel
theorem dX7_mark_33 : decode cX7_mark 33 = .ok (.iaload, 1) := by decide +kernel
theorem dX7_mark_34 : decode cX7_mark 34 = .ok (.iconst (-1), 1) := by decide +kernel
theorem dX7_mark_35 : decode cX7_mark 35 = .ok (.if_icmp .eq 22, 3) := by decide +kernel
theorem dX7_mark_38 : decode cX7_mark 38 = .ok (.aload_n 0, 1) := by decide +kernel
theorem dX7_mark_39 : decode cX7_mark 39 = .ok (.getfield 38, 3) := by decide +kernel
theorem dX7_mark_42 : decode cX7_mark 42 = .ok (.bipush 12, 2) := by decide +kernel
theorem dX7_mark_44 : decode cX7_mark 44 = .ok (.iload_n 1, 1) := by decide +kernel
theorem dX7_mark_45 : decode cX7_mark 45 = .ok (.imul, 1) := by decide +kernel
theorem dX7_mark_46 : decode cX7_mark 46 = .ok (.iload_n 2, 1) := by decide +kernel
theorem dX7_mark_47 : decode cX7_mark 47 = .ok (.iadd, 1) := by decide +kernel
theorem dX7_mark_48 : decode cX7_mark 48 = .ok (.iaload, 1) := by decide +kernel
theorem dX7_mark_49 : decode cX7_mark 49 = .ok (.iconst (-1), 1) := by decide +kernel
theorem dX7_mark_50 : decode cX7_mark 50 = .ok (.if_icmp .eq 7, 3) := by decide +kernel
theorem dX7_mark_53 : decode cX7_mark 53 = .ok (.iconst 1, 1) := by decide +kernel
theorem dX7_mark_54 : decode cX7_mark 54 = .ok (.goto 4, 3) := by decide +kernel
theorem dX7_mark_57 : decode cX7_mark 57 = .ok (.iconst 0, 1) := by decide +kernel
theorem dX7_mark_58 : decode cX7_mark 58 = .ok (.istore 5, 2) := by decide +kernel
theorem dX7_mark_60 : decode cX7_mark 60 = .ok (.aload_n 0, 1) := by decide +kernel
theorem dX7_mark_61 : decode cX7_mark 61 = .ok (.iload 4, 2) := by decide +kernel
theorem dX7_mark_63 : decode cX7_mark 63 = .ok (.iload_n 3, 1) := by decide +kernel
theorem dX7_mark_64 : decode cX7_mark 64 = .ok (.iconst 0, 1) := by decide +kernel
theorem dX7_mark_65 : decode cX7_mark 65 = .ok (.bipush 9, 2) := by decide +kernel
theorem dX7_mark_67 : decode cX7_mark 67 = .ok (.invokestatic 95, 3) := by decide +kernel
theorem dX7_mark_70 : decode cX7_mark 70 = .ok (.iload 5, 2) := by decide +kernel
theorem dX7_mark_72 : decode cX7_mark 72 = .ok (.invokevirtual 105, 3) := by decide +kernel
theorem dX7_mark_75 : decode cX7_mark 75 = .ok (.ifCond .ne 5, 3) := by decide +kernel
theorem dX7_mark_78 : decode cX7_mark 78 = .ok (.iconst 0, 1) := by decide +kernel
theorem dX7_mark_79 : decode cX7_mark 79 = .ok (.ireturn, 1) := by decide +kernel
theorem dX7_mark_80 : decode cX7_mark 80 = .ok (.bipush 60, 2) := by decide +kernel
theorem dX7_mark_82 : decode cX7_mark 82 = .ok (.aload_n 0, 1) := by decide +kernel
theorem dX7_mark_83 : decode cX7_mark 83 = .ok (.getfield 35, 3) := by decide +kernel
theorem dX7_mark_86 : decode cX7_mark 86 = .ok (.iload_n 1, 1) := by decide +kernel
theorem dX7_mark_87 : decode cX7_mark 87 = .ok (.iaload, 1) := by decide +kernel
theorem dX7_mark_88 : decode cX7_mark 88 = .ok (.imul, 1) := by decide +kernel
theorem dX7_mark_89 : decode cX7_mark 89 = .ok (.aload_n 0, 1) := by decide +kernel
theorem dX7_mark_90 : decode cX7_mark 90 = .ok (.getfield 32, 3) := by decide +kernel
theorem dX7_mark_93 : decode cX7_mark 93 = .ok (.iload_n 1, 1) := by decide +kernel
theorem dX7_mark_94 : decode cX7_mark 94 = .ok (.iaload, 1) := by decide +kernel
theorem dX7_mark_95 : decode cX7_mark 95 = .ok (.iload_n 2, 1) := by decide +kernel
theorem dX7_mark_96 : decode cX7_mark 96 = .ok (.invokestatic 116, 3) := by decide +kernel
theorem dX7_mark_99 : decode cX7_mark 99 = .ok (.iadd, 1) := by decide +kernel
theorem dX7_mark_100 : decode cX7_mark 100 = .ok (.istore 6, 2) := by decide +kernel
theorem dX7_mark_102 : decode cX7_mark 102 = .ok (.aload_n 0, 1) := by decide +kernel
theorem dX7_mark_103 : decode cX7_mark 103 = .ok (.getfield 41, 3) := by decide +kernel
theorem dX7_mark_106 : decode cX7_mark 106 = .ok (.iload 6, 2) := by decide +kernel
theorem dX7_mark_108 : decode cX7_mark 108 = .ok (.iaload, 1) := by decide +kernel
theorem dX7_mark_109 : decode cX7_mark 109 = .ok (.istore 7, 2) := by decide +kernel
theorem dX7_mark_111 : decode cX7_mark 111 = .ok (.aload_n 0, 1) := by decide +kernel
theorem dX7_mark_112 : decode cX7_mark 112 = .ok (.getfield 41, 3) := by decide +kernel
theorem dX7_mark_115 : decode cX7_mark 115 = .ok (.iload 6, 2) := by decide +kernel
theorem dX7_mark_117 : decode cX7_mark 117 = .ok (.iload_n 3, 1) := by decide +kernel
theorem dX7_mark_118 : decode cX7_mark 118 = .ok (.iastore, 1) := by decide +kernel
theorem dX7_mark_119 : decode cX7_mark 119 = .ok (.aload_n 0, 1) := by decide +kernel
theorem dX7_mark_120 : decode cX7_mark 120 = .ok (.getfield 44, 3) := by decide +kernel
theorem dX7_mark_123 : decode cX7_mark 123 = .ok (.iload 6, 2) := by decide +kernel
theorem dX7_mark_125 : decode cX7_mark 125 = .ok (.aload_n 0, 1) := by decide +kernel
theorem dX7_mark_126 : decode cX7_mark 126 = .ok (.getfield 38, 3) := by decide +kernel
theorem dX7_mark_129 : decode cX7_mark 129 = .ok (.bipush 12, 2) := by decide +kernel
theorem dX7_mark_131 : decode cX7_mark 131 = .ok (.iload_n 1, 1) := by decide +kernel
theorem dX7_mark_132 : decode cX7_mark 132 = .ok (.imul, 1) := by decide +kernel
theorem dX7_mark_133 : decode cX7_mark 133 = .ok (.iload_n 2, 1) := by decide +kernel
theorem dX7_mark_134 : decode cX7_mark 134 = .ok (.iadd, 1) := by decide +kernel
theorem dX7_mark_135 : decode cX7_mark 135 = .ok (.iaload, 1) := by decide +kernel
theorem dX7_mark_136 : decode cX7_mark 136 = .ok (.iastore, 1) := by decide +kernel
theorem dX7_mark_137 : decode cX7_mark 137 = .ok (.iload 7, 2) := by decide +kernel
theorem dX7_mark_139 : decode cX7_mark 139 = .ok (.ireturn, 1) := by decide +kernel
theorem dX7_bowing_0 : decode cX7_bowing 0 = .ok (.bipush 8, 2) := by decide +kernel
theorem dX7_bowing_2 : decode cX7_bowing 2 = .ok (.bipush 60, 2) := by decide +kernel
theorem dX7_bowing_4 : decode cX7_bowing 4 = .ok (.iload_n 1, 1) := by decide +kernel
theorem dX7_bowing_5 : decode cX7_bowing 5 = .ok (.imul, 1) := by decide +kernel
theorem dX7_bowing_6 : decode cX7_bowing 6 = .ok (.iload_n 2, 1) := by decide +kernel
theorem dX7_bowing_7 : decode cX7_bowing 7 = .ok (.iadd, 1) := by decide +kernel
theorem dX7_bowing_8 : decode cX7_bowing 8 = .ok (.imul, 1) := by decide +kernel
theorem dX7_bowing_9 : decode cX7_bowing 9 = .ok (.iload_n 3, 1) := by decide +kernel
theorem dX7_bowing_10 : decode cX7_bowing 10 = .ok (.iadd, 1) := by decide +kernel
theorem dX7_bowing_11 : decode cX7_bowing 11 = .ok (.istore 4, 2) := by decide +kernel
theorem dX7_bowing_13 : decode cX7_bowing 13 = .ok (.aload_n 0, 1) := by decide +kernel
theorem dX7_bowing_14 : decode cX7_bowing 14 = .ok (.getfield 50, 3) := by decide +kernel
theorem dX7_bowing_17 : decode cX7_bowing 17 = .ok (.iload 4, 2) := by decide +kernel
theorem dX7_bowing_19 : decode cX7_bowing 19 = .ok (.iaload, 1) := by decide +kernel
theorem dX7_bowing_20 : decode cX7_bowing 20 = .ok (.aload_n 0, 1) := by decide +kernel
theorem dX7_bowing_21 : decode cX7_bowing 21 = .ok (.getfield 22, 3) := by decide +kernel
theorem dX7_bowing_24 : decode cX7_bowing 24 = .ok (.iload_n 2, 1) := by decide +kernel
theorem dX7_bowing_25 : decode cX7_bowing 25 = .ok (.iaload, 1) := by decide +kernel
theorem dX7_bowing_26 : decode cX7_bowing 26 = .ok (.if_icmp .ne 13, 3) := by decide +kernel
theorem dX7_bowing_29 : decode cX7_bowing 29 = .ok (.aload_n 0, 1) := by decide +kernel
theorem dX7_bowing_30 : decode cX7_bowing 30 = .ok (.getfield 47, 3) := by decide +kernel
theorem dX7_bowing_33 : decode cX7_bowing 33 = .ok (.iload 4, 2) := by decide +kernel
theorem dX7_bowing_35 : decode cX7_bowing 35 = .ok (.iaload, 1) := by decide +kernel
theorem dX7_bowing_36 : decode cX7_bowing 36 = .ok (.goto 4, 3) := by decide +kernel
theorem dX7_bowing_39 : decode cX7_bowing 39 = .ok (.iconst 0, 1) := by decide +kernel
theorem dX7_bowing_40 : decode cX7_bowing 40 = .ok (.ireturn, 1) := by decide +kernel
theorem dX7_bow_0 : decode cX7_bow 0 = .ok (.aload_n 0, 1) := by decide +kernel
theorem dX7_bow_1 : decode cX7_bow 1 = .ok (.iload_n 1, 1) := by decide +kernel
theorem dX7_bow_2 : decode cX7_bow 2 = .ok (.invokevirtual 126, 3) := by decide +kernel
theorem dX7_bow_5 : decode cX7_bow 5 = .ok (.istore 5, 2) := by decide +kernel
theorem dX7_bow_7 : decode cX7_bow 7 = .ok (.iload 5, 2) := by decide +kernel
theorem dX7_bow_9 : decode cX7_bow 9 = .ok (.ifCond .eq 22, 3) := by decide +kernel
theorem dX7_bow_12 : decode cX7_bow 12 = .ok (.aload_n 0, 1) := by decide +kernel
theorem dX7_bow_13 : decode cX7_bow 13 = .ok (.aload_n 0, 1) := by decide +kernel
theorem dX7_bow_14 : decode cX7_bow 14 = .ok (.getfield 32, 3) := by decide +kernel
theorem dX7_bow_17 : decode cX7_bow 17 = .ok (.iload_n 1, 1) := by decide +kernel
theorem dX7_bow_18 : decode cX7_bow 18 = .ok (.iaload, 1) := by decide +kernel
theorem dX7_bow_19 : decode cX7_bow 19 = .ok (.iload_n 2, 1) := by decide +kernel
theorem dX7_bow_20 : decode cX7_bow 20 = .ok (.iload_n 3, 1) := by decide +kernel
theorem dX7_bow_21 : decode cX7_bow 21 = .ok (.invokevirtual 123, 3) := by decide +kernel
theorem dX7_bow_24 : decode cX7_bow 24 = .ok (.ifCond .eq 7, 3) := by decide +kernel
theorem dX7_bow_27 : decode cX7_bow 27 = .ok (.iconst 1, 1) := by decide +kernel
theorem dX7_bow_28 : decode cX7_bow 28 = .ok (.goto 4, 3) := by decide +kernel
theorem dX7_bow_31 : decode cX7_bow 31 = .ok (.iconst 0, 1) := by decide +kernel
theorem dX7_bow_32 : decode cX7_bow 32 = .ok (.istore 5, 2) := by decide +kernel
theorem dX7_bow_34 : decode cX7_bow 34 = .ok (.aload_n 0, 1) := by decide +kernel
theorem dX7_bow_35 : decode cX7_bow 35 = .ok (.iload 5, 2) := by decide +kernel
theorem dX7_bow_37 : decode cX7_bow 37 = .ok (.iload 4, 2) := by decide +kernel
theorem dX7_bow_39 : decode cX7_bow 39 = .ok (.iconst 0, 1) := by decide +kernel
theorem dX7_bow_40 : decode cX7_bow 40 = .ok (.iconst 2, 1) := by decide +kernel
theorem dX7_bow_41 : decode cX7_bow 41 = .ok (.invokestatic 95, 3) := by decide +kernel
theorem dX7_bow_44 : decode cX7_bow 44 = .ok (.iload 5, 2) := by decide +kernel
theorem dX7_bow_46 : decode cX7_bow 46 = .ok (.ifCond .eq 26, 3) := by decide +kernel
theorem dX7_bow_49 : decode cX7_bow 49 = .ok (.aload_n 0, 1) := by decide +kernel
theorem dX7_bow_50 : decode cX7_bow 50 = .ok (.getfield 35, 3) := by decide +kernel
theorem dX7_bow_53 : decode cX7_bow 53 = .ok (.iload_n 1, 1) := by decide +kernel
theorem dX7_bow_54 : decode cX7_bow 54 = .ok (.iaload, 1) := by decide +kernel
theorem dX7_bow_55 : decode cX7_bow 55 = .ok (.iconst (-1), 1) := by decide +kernel
theorem dX7_bow_56 : decode cX7_bow 56 = .ok (.if_icmp .eq 16, 3) := by decide +kernel
theorem dX7_bow_59 : decode cX7_bow 59 = .ok (.aload_n 0, 1) := by decide +kernel
theorem dX7_bow_60 : decode cX7_bow 60 = .ok (.iload_n 1, 1) := by decide +kernel
theorem dX7_bow_61 : decode cX7_bow 61 = .ok (.iload_n 2, 1) := by decide +kernel
theorem dX7_bow_62 : decode cX7_bow 62 = .ok (.invokevirtual 137, 3) := by decide +kernel
theorem dX7_bow_65 : decode cX7_bow 65 = .ok (.ifCond .ne 7, 3) := by decide +kernel
theorem dX7_bow_68 : decode cX7_bow 68 = .ok (.iconst 1, 1) := by decide +kernel
theorem dX7_bow_69 : decode cX7_bow 69 = .ok (.goto 4, 3) := by decide +kernel
theorem dX7_bow_72 : decode cX7_bow 72 = .ok (.iconst 0, 1) := by decide +kernel
theorem dX7_bow_73 : decode cX7_bow 73 = .ok (.invokevirtual 105, 3) := by decide +kernel
theorem dX7_bow_76 : decode cX7_bow 76 = .ok (.ifCond .ne 5, 3) := by decide +kernel
theorem dX7_bow_79 : decode cX7_bow 79 = .ok (.iconst 0, 1) := by decide +kernel
theorem dX7_bow_80 : decode cX7_bow 80 = .ok (.ireturn, 1) := by decide +kernel
theorem dX7_bow_81 : decode cX7_bow 81 = .ok (.aload_n 0, 1) := by decide +kernel
theorem dX7_bow_82 : decode cX7_bow 82 = .ok (.getfield 32, 3) := by decide +kernel
theorem dX7_bow_85 : decode cX7_bow 85 = .ok (.iload_n 1, 1) := by decide +kernel
theorem dX7_bow_86 : decode cX7_bow 86 = .ok (.iaload, 1) := by decide +kernel
theorem dX7_bow_87 : decode cX7_bow 87 = .ok (.iload_n 2, 1) := by decide +kernel
theorem dX7_bow_88 : decode cX7_bow 88 = .ok (.invokestatic 116, 3) := by decide +kernel
theorem dX7_bow_91 : decode cX7_bow 91 = .ok (.istore 6, 2) := by decide +kernel
theorem dX7_bow_93 : decode cX7_bow 93 = .ok (.bipush 8, 2) := by decide +kernel
theorem dX7_bow_95 : decode cX7_bow 95 = .ok (.bipush 60, 2) := by decide +kernel
theorem dX7_bow_97 : decode cX7_bow 97 = .ok (.aload_n 0, 1) := by decide +kernel
theorem dX7_bow_98 : decode cX7_bow 98 = .ok (.getfield 35, 3) := by decide +kernel
theorem dX7_bow_101 : decode cX7_bow 101 = .ok (.iload_n 1, 1) := by decide +kernel
theorem dX7_bow_102 : decode cX7_bow 102 = .ok (.iaload, 1) := by decide +kernel
theorem dX7_bow_103 : decode cX7_bow 103 = .ok (.imul, 1) := by decide +kernel
theorem dX7_bow_104 : decode cX7_bow 104 = .ok (.iload 6, 2) := by decide +kernel
theorem dX7_bow_106 : decode cX7_bow 106 = .ok (.iadd, 1) := by decide +kernel
theorem dX7_bow_107 : decode cX7_bow 107 = .ok (.imul, 1) := by decide +kernel
theorem dX7_bow_108 : decode cX7_bow 108 = .ok (.iload_n 3, 1) := by decide +kernel
theorem dX7_bow_109 : decode cX7_bow 109 = .ok (.iadd, 1) := by decide +kernel
theorem dX7_bow_110 : decode cX7_bow 110 = .ok (.istore 7, 2) := by decide +kernel
theorem dX7_bow_112 : decode cX7_bow 112 = .ok (.aload_n 0, 1) := by decide +kernel
theorem dX7_bow_113 : decode cX7_bow 113 = .ok (.aload_n 0, 1) := by decide +kernel
theorem dX7_bow_114 : decode cX7_bow 114 = .ok (.getfield 35, 3) := by decide +kernel
theorem dX7_bow_117 : decode cX7_bow 117 = .ok (.iload_n 1, 1) := by decide +kernel
theorem dX7_bow_118 : decode cX7_bow 118 = .ok (.iaload, 1) := by decide +kernel
theorem dX7_bow_119 : decode cX7_bow 119 = .ok (.iload 6, 2) := by decide +kernel
theorem dX7_bow_121 : decode cX7_bow 121 = .ok (.iload_n 3, 1) := by decide +kernel
theorem dX7_bow_122 : decode cX7_bow 122 = .ok (.invokevirtual 148, 3) := by decide +kernel
theorem dX7_bow_125 : decode cX7_bow 125 = .ok (.istore 8, 2) := by decide +kernel
theorem dX7_bow_127 : decode cX7_bow 127 = .ok (.aload_n 0, 1) := by decide +kernel
theorem dX7_bow_128 : decode cX7_bow 128 = .ok (.getfield 47, 3) := by decide +kernel
theorem dX7_bow_131 : decode cX7_bow 131 = .ok (.iload 7, 2) := by decide +kernel
theorem dX7_bow_133 : decode cX7_bow 133 = .ok (.iload 4, 2) := by decide +kernel
theorem dX7_bow_135 : decode cX7_bow 135 = .ok (.iastore, 1) := by decide +kernel
theorem dX7_bow_136 : decode cX7_bow 136 = .ok (.aload_n 0, 1) := by decide +kernel
theorem dX7_bow_137 : decode cX7_bow 137 = .ok (.getfield 50, 3) := by decide +kernel
theorem dX7_bow_140 : decode cX7_bow 140 = .ok (.iload 7, 2) := by decide +kernel
theorem dX7_bow_142 : decode cX7_bow 142 = .ok (.aload_n 0, 1) := by decide +kernel
theorem dX7_bow_143 : decode cX7_bow 143 = .ok (.getfield 22, 3) := by decide +kernel
theorem dX7_bow_146 : decode cX7_bow 146 = .ok (.iload 6, 2) := by decide +kernel
theorem dX7_bow_148 : decode cX7_bow 148 = .ok (.iaload, 1) := by decide +kernel
theorem dX7_bow_149 : decode cX7_bow 149 = .ok (.iastore, 1) := by decide +kernel
theorem dX7_bow_150 : decode cX7_bow 150 = .ok (.iload 8, 2) := by decide +kernel
theorem dX7_bow_152 : decode cX7_bow 152 = .ok (.ireturn, 1) := by decide +kernel
theorem dX7_play_0 : decode cX7_play 0 = .ok (.aload_n 0, 1) := by decide +kernel
theorem dX7_play_1 : decode cX7_play 1 = .ok (.invokevirtual 133, 3) := by decide +kernel
theorem dX7_play_4 : decode cX7_play 4 = .ok (.ifCond .le 7, 3) := by decide +kernel
theorem dX7_play_7 : decode cX7_play 7 = .ok (.iconst 1, 1) := by decide +kernel
theorem dX7_play_8 : decode cX7_play 8 = .ok (.goto 4, 3) := by decide +kernel
theorem dX7_play_11 : decode cX7_play 11 = .ok (.iconst 0, 1) := by decide +kernel
theorem dX7_play_12 : decode cX7_play 12 = .ok (.istore_n 1, 1) := by decide +kernel
theorem dX7_play_13 : decode cX7_play 13 = .ok (.iconst 0, 1) := by decide +kernel
theorem dX7_play_14 : decode cX7_play 14 = .ok (.istore_n 2, 1) := by decide +kernel
theorem dX7_play_15 : decode cX7_play 15 = .ok (.iload_n 2, 1) := by decide +kernel
theorem dX7_play_16 : decode cX7_play 16 = .ok (.aload_n 0, 1) := by decide +kernel
theorem dX7_play_17 : decode cX7_play 17 = .ok (.getfield 102, 3) := by decide +kernel
theorem dX7_play_20 : decode cX7_play 20 = .ok (.if_icmp .ge 27, 3) := by decide +kernel
theorem dX7_play_23 : decode cX7_play 23 = .ok (.iload_n 1, 1) := by decide +kernel
theorem dX7_play_24 : decode cX7_play 24 = .ok (.ifCond .eq 15, 3) := by decide +kernel
theorem dX7_play_27 : decode cX7_play 27 = .ok (.aload_n 0, 1) := by decide +kernel
theorem dX7_play_28 : decode cX7_play 28 = .ok (.iload_n 2, 1) := by decide +kernel
theorem dX7_play_29 : decode cX7_play 29 = .ok (.invokevirtual 144, 3) := by decide +kernel
theorem dX7_play_32 : decode cX7_play 32 = .ok (.ifCond .ne 7, 3) := by decide +kernel
theorem dX7_play_35 : decode cX7_play 35 = .ok (.iconst 1, 1) := by decide +kernel
theorem dX7_play_36 : decode cX7_play 36 = .ok (.goto 4, 3) := by decide +kernel
theorem dX7_play_39 : decode cX7_play 39 = .ok (.iconst 0, 1) := by decide +kernel
theorem dX7_play_40 : decode cX7_play 40 = .ok (.istore_n 1, 1) := by decide +kernel
theorem dX7_play_41 : decode cX7_play 41 = .ok (.iinc 2 1, 3) := by decide +kernel
theorem dX7_play_44 : decode cX7_play 44 = .ok (.goto (-29), 3) := by decide +kernel
theorem dX7_play_47 : decode cX7_play 47 = .ok (.aload_n 0, 1) := by decide +kernel
theorem dX7_play_48 : decode cX7_play 48 = .ok (.iload_n 1, 1) := by decide +kernel
theorem dX7_play_49 : decode cX7_play 49 = .ok (.iconst 1, 1) := by decide +kernel
theorem dX7_play_50 : decode cX7_play 50 = .ok (.iconst 1, 1) := by decide +kernel
theorem dX7_play_51 : decode cX7_play 51 = .ok (.invokevirtual 105, 3) := by decide +kernel
theorem dX7_play_54 : decode cX7_play 54 = .ok (.ifCond .ne 5, 3) := by decide +kernel
theorem dX7_play_57 : decode cX7_play 57 = .ok (.iconst 0, 1) := by decide +kernel
theorem dX7_play_58 : decode cX7_play 58 = .ok (.ireturn, 1) := by decide +kernel
theorem dX7_play_59 : decode cX7_play 59 = .ok (.aload_n 0, 1) := by decide +kernel
theorem dX7_play_60 : decode cX7_play 60 = .ok (.dup, 1) := by decide +kernel
theorem dX7_play_61 : decode cX7_play 61 = .ok (.getfield 152, 3) := by decide +kernel
theorem dX7_play_64 : decode cX7_play 64 = .ok (.iconst 1, 1) := by decide +kernel
theorem dX7_play_65 : decode cX7_play 65 = .ok (.iadd, 1) := by decide +kernel
theorem dX7_play_66 : decode cX7_play 66 = .ok (.putfield 152, 3) := by decide +kernel
theorem dX7_play_69 : decode cX7_play 69 = .ok (.aload_n 0, 1) := by decide +kernel
theorem dX7_play_70 : decode cX7_play 70 = .ok (.invokevirtual 133, 3) := by decide +kernel
theorem dX7_play_73 : decode cX7_play 73 = .ok (.ireturn, 1) := by decide +kernel
theorem dX7_bars_0 : decode cX7_bars 0 = .ok (.aload_n 0, 1) := by decide +kernel
theorem dX7_bars_1 : decode cX7_bars 1 = .ok (.iconst 0, 1) := by decide +kernel
theorem dX7_bars_2 : decode cX7_bars 2 = .ok (.putfield 92, 3) := by decide +kernel
theorem dX7_bars_5 : decode cX7_bars 5 = .ok (.aload_n 0, 1) := by decide +kernel
theorem dX7_bars_6 : decode cX7_bars 6 = .ok (.getfield 99, 3) := by decide +kernel
theorem dX7_bars_9 : decode cX7_bars 9 = .ok (.ireturn, 1) := by decide +kernel
theorem dX7_notes_0 : decode cX7_notes 0 = .ok (.aload_n 0, 1) := by decide +kernel
theorem dX7_notes_1 : decode cX7_notes 1 = .ok (.iload_n 1, 1) := by decide +kernel
theorem dX7_notes_2 : decode cX7_notes 2 = .ok (.invokestatic 109, 3) := by decide +kernel
theorem dX7_notes_5 : decode cX7_notes 5 = .ok (.ifCond .eq 15, 3) := by decide +kernel
theorem dX7_notes_8 : decode cX7_notes 8 = .ok (.aload_n 0, 1) := by decide +kernel
theorem dX7_notes_9 : decode cX7_notes 9 = .ok (.iload_n 2, 1) := by decide +kernel
theorem dX7_notes_10 : decode cX7_notes 10 = .ok (.invokevirtual 113, 3) := by decide +kernel
theorem dX7_notes_13 : decode cX7_notes 13 = .ok (.ifCond .eq 7, 3) := by decide +kernel
theorem dX7_notes_16 : decode cX7_notes 16 = .ok (.iconst 1, 1) := by decide +kernel
theorem dX7_notes_17 : decode cX7_notes 17 = .ok (.goto 4, 3) := by decide +kernel
theorem dX7_notes_20 : decode cX7_notes 20 = .ok (.iconst 0, 1) := by decide +kernel
theorem dX7_notes_21 : decode cX7_notes 21 = .ok (.iconst 1, 1) := by decide +kernel
theorem dX7_notes_22 : decode cX7_notes 22 = .ok (.iconst 1, 1) := by decide +kernel
theorem dX7_notes_23 : decode cX7_notes 23 = .ok (.invokevirtual 105, 3) := by decide +kernel
theorem dX7_notes_26 : decode cX7_notes 26 = .ok (.ifCond .eq 16, 3) := by decide +kernel
theorem dX7_notes_29 : decode cX7_notes 29 = .ok (.aload_n 0, 1) := by decide +kernel
theorem dX7_notes_30 : decode cX7_notes 30 = .ok (.getfield 19, 3) := by decide +kernel
theorem dX7_notes_33 : decode cX7_notes 33 = .ok (.iload_n 1, 1) := by decide +kernel
theorem dX7_notes_34 : decode cX7_notes 34 = .ok (.iload_n 2, 1) := by decide +kernel
theorem dX7_notes_35 : decode cX7_notes 35 = .ok (.invokestatic 116, 3) := by decide +kernel
theorem dX7_notes_38 : decode cX7_notes 38 = .ok (.iaload, 1) := by decide +kernel
theorem dX7_notes_39 : decode cX7_notes 39 = .ok (.goto 4, 3) := by decide +kernel
theorem dX7_notes_42 : decode cX7_notes 42 = .ok (.iconst 0, 1) := by decide +kernel
theorem dX7_notes_43 : decode cX7_notes 43 = .ok (.ireturn, 1) := by decide +kernel
theorem dX7_noteAt_0 : decode cX7_noteAt 0 = .ok (.aload_n 0, 1) := by decide +kernel
theorem dX7_noteAt_1 : decode cX7_noteAt 1 = .ok (.aload_n 0, 1) := by decide +kernel
theorem dX7_noteAt_2 : decode cX7_noteAt 2 = .ok (.iload_n 1, 1) := by decide +kernel
theorem dX7_noteAt_3 : decode cX7_noteAt 3 = .ok (.iload_n 2, 1) := by decide +kernel
theorem dX7_noteAt_4 : decode cX7_noteAt 4 = .ok (.iload_n 3, 1) := by decide +kernel
theorem dX7_noteAt_5 : decode cX7_noteAt 5 = .ok (.invokevirtual 123, 3) := by decide +kernel
theorem dX7_noteAt_8 : decode cX7_noteAt 8 = .ok (.iconst 1, 1) := by decide +kernel
theorem dX7_noteAt_9 : decode cX7_noteAt 9 = .ok (.iconst 1, 1) := by decide +kernel
theorem dX7_noteAt_10 : decode cX7_noteAt 10 = .ok (.invokevirtual 105, 3) := by decide +kernel
theorem dX7_noteAt_13 : decode cX7_noteAt 13 = .ok (.ifCond .ne 5, 3) := by decide +kernel
theorem dX7_noteAt_16 : decode cX7_noteAt 16 = .ok (.iconst 0, 1) := by decide +kernel
theorem dX7_noteAt_17 : decode cX7_noteAt 17 = .ok (.ireturn, 1) := by decide +kernel
theorem dX7_noteAt_18 : decode cX7_noteAt 18 = .ok (.bipush 8, 2) := by decide +kernel
theorem dX7_noteAt_20 : decode cX7_noteAt 20 = .ok (.iload_n 1, 1) := by decide +kernel
theorem dX7_noteAt_21 : decode cX7_noteAt 21 = .ok (.iload_n 2, 1) := by decide +kernel
theorem dX7_noteAt_22 : decode cX7_noteAt 22 = .ok (.invokestatic 116, 3) := by decide +kernel
theorem dX7_noteAt_25 : decode cX7_noteAt 25 = .ok (.imul, 1) := by decide +kernel
theorem dX7_noteAt_26 : decode cX7_noteAt 26 = .ok (.iload_n 3, 1) := by decide +kernel
theorem dX7_noteAt_27 : decode cX7_noteAt 27 = .ok (.iadd, 1) := by decide +kernel
theorem dX7_noteAt_28 : decode cX7_noteAt 28 = .ok (.istore 4, 2) := by decide +kernel
theorem dX7_noteAt_30 : decode cX7_noteAt 30 = .ok (.bipush 100, 2) := by decide +kernel
theorem dX7_noteAt_32 : decode cX7_noteAt 32 = .ok (.aload_n 0, 1) := by decide +kernel
theorem dX7_noteAt_33 : decode cX7_noteAt 33 = .ok (.getfield 13, 3) := by decide +kernel
theorem dX7_noteAt_36 : decode cX7_noteAt 36 = .ok (.iload 4, 2) := by decide +kernel
theorem dX7_noteAt_38 : decode cX7_noteAt 38 = .ok (.iaload, 1) := by decide +kernel
theorem dX7_noteAt_39 : decode cX7_noteAt 39 = .ok (.imul, 1) := by decide +kernel
theorem dX7_noteAt_40 : decode cX7_noteAt 40 = .ok (.aload_n 0, 1) := by decide +kernel
theorem dX7_noteAt_41 : decode cX7_noteAt 41 = .ok (.getfield 16, 3) := by decide +kernel
theorem dX7_noteAt_44 : decode cX7_noteAt 44 = .ok (.iload 4, 2) := by decide +kernel
theorem dX7_noteAt_46 : decode cX7_noteAt 46 = .ok (.iaload, 1) := by decide +kernel
theorem dX7_noteAt_47 : decode cX7_noteAt 47 = .ok (.iadd, 1) := by decide +kernel
theorem dX7_noteAt_48 : decode cX7_noteAt 48 = .ok (.ireturn, 1) := by decide +kernel
theorem dX7_version_0 : decode cX7_version 0 = .ok (.aload_n 0, 1) := by decide +kernel
theorem dX7_version_1 : decode cX7_version 1 = .ok (.iload_n 1, 1) := by decide +kernel
theorem dX7_version_2 : decode cX7_version 2 = .ok (.invokestatic 109, 3) := by decide +kernel
theorem dX7_version_5 : decode cX7_version 5 = .ok (.ifCond .eq 15, 3) := by decide +kernel
theorem dX7_version_8 : decode cX7_version 8 = .ok (.aload_n 0, 1) := by decide +kernel
theorem dX7_version_9 : decode cX7_version 9 = .ok (.iload_n 2, 1) := by decide +kernel
theorem dX7_version_10 : decode cX7_version 10 = .ok (.invokevirtual 113, 3) := by decide +kernel
theorem dX7_version_13 : decode cX7_version 13 = .ok (.ifCond .eq 7, 3) := by decide +kernel
theorem dX7_version_16 : decode cX7_version 16 = .ok (.iconst 1, 1) := by decide +kernel
theorem dX7_version_17 : decode cX7_version 17 = .ok (.goto 4, 3) := by decide +kernel
theorem dX7_version_20 : decode cX7_version 20 = .ok (.iconst 0, 1) := by decide +kernel
theorem dX7_version_21 : decode cX7_version 21 = .ok (.iconst 1, 1) := by decide +kernel
theorem dX7_version_22 : decode cX7_version 22 = .ok (.iconst 1, 1) := by decide +kernel
theorem dX7_version_23 : decode cX7_version 23 = .ok (.invokevirtual 105, 3) := by decide +kernel
theorem dX7_version_26 : decode cX7_version 26 = .ok (.ifCond .eq 16, 3) := by decide +kernel
theorem dX7_version_29 : decode cX7_version 29 = .ok (.aload_n 0, 1) := by decide +kernel
theorem dX7_version_30 : decode cX7_version 30 = .ok (.getfield 22, 3) := by decide +kernel
theorem dX7_version_33 : decode cX7_version 33 = .ok (.iload_n 1, 1) := by decide +kernel
theorem dX7_version_34 : decode cX7_version 34 = .ok (.iload_n 2, 1) := by decide +kernel
theorem dX7_version_35 : decode cX7_version 35 = .ok (.invokestatic 116, 3) := by decide +kernel
theorem dX7_version_38 : decode cX7_version 38 = .ok (.iaload, 1) := by decide +kernel
theorem dX7_version_39 : decode cX7_version 39 = .ok (.goto 4, 3) := by decide +kernel
theorem dX7_version_42 : decode cX7_version 42 = .ok (.iconst 0, 1) := by decide +kernel
theorem dX7_version_43 : decode cX7_version 43 = .ok (.ireturn, 1) := by decide +kernel
theorem dX7_time_0 : decode cX7_time 0 = .ok (.iconst 0, 1) := by decide +kernel
theorem dX7_time_1 : decode cX7_time 1 = .ok (.istore_n 2, 1) := by decide +kernel
theorem dX7_time_2 : decode cX7_time 2 = .ok (.aload_n 0, 1) := by decide +kernel
theorem dX7_time_3 : decode cX7_time 3 = .ok (.iload_n 1, 1) := by decide +kernel
theorem dX7_time_4 : decode cX7_time 4 = .ok (.iconst 0, 1) := by decide +kernel
theorem dX7_time_5 : decode cX7_time 5 = .ok (.aload_n 0, 1) := by decide +kernel
theorem dX7_time_6 : decode cX7_time 6 = .ok (.getfield 99, 3) := by decide +kernel
theorem dX7_time_9 : decode cX7_time 9 = .ok (.invokestatic 95, 3) := by decide +kernel
theorem dX7_time_12 : decode cX7_time 12 = .ok (.iconst 1, 1) := by decide +kernel
theorem dX7_time_13 : decode cX7_time 13 = .ok (.iconst 1, 1) := by decide +kernel
theorem dX7_time_14 : decode cX7_time 14 = .ok (.invokevirtual 105, 3) := by decide +kernel
theorem dX7_time_17 : decode cX7_time 17 = .ok (.istore_n 3, 1) := by decide +kernel
theorem dX7_time_18 : decode cX7_time 18 = .ok (.iconst 0, 1) := by decide +kernel
theorem dX7_time_19 : decode cX7_time 19 = .ok (.istore 4, 2) := by decide +kernel
theorem dX7_time_21 : decode cX7_time 21 = .ok (.iload_n 3, 1) := by decide +kernel
theorem dX7_time_22 : decode cX7_time 22 = .ok (.ifCond .eq 25, 3) := by decide +kernel
theorem dX7_time_25 : decode cX7_time 25 = .ok (.iload 4, 2) := by decide +kernel
theorem dX7_time_27 : decode cX7_time 27 = .ok (.iload_n 1, 1) := by decide +kernel
theorem dX7_time_28 : decode cX7_time 28 = .ok (.if_icmp .ge 19, 3) := by decide +kernel
theorem dX7_time_31 : decode cX7_time 31 = .ok (.iload_n 2, 1) := by decide +kernel
theorem dX7_time_32 : decode cX7_time 32 = .ok (.aload_n 0, 1) := by decide +kernel
theorem dX7_time_33 : decode cX7_time 33 = .ok (.getfield 7, 3) := by decide +kernel
theorem dX7_time_36 : decode cX7_time 36 = .ok (.iload 4, 2) := by decide +kernel
theorem dX7_time_38 : decode cX7_time 38 = .ok (.iaload, 1) := by decide +kernel
theorem dX7_time_39 : decode cX7_time 39 = .ok (.iadd, 1) := by decide +kernel
theorem dX7_time_40 : decode cX7_time 40 = .ok (.istore_n 2, 1) := by decide +kernel
theorem dX7_time_41 : decode cX7_time 41 = .ok (.iinc 4 1, 3) := by decide +kernel
theorem dX7_time_44 : decode cX7_time 44 = .ok (.goto (-23), 3) := by decide +kernel
theorem dX7_time_47 : decode cX7_time 47 = .ok (.iload_n 2, 1) := by decide +kernel
theorem dX7_time_48 : decode cX7_time 48 = .ok (.ireturn, 1) := by decide +kernel
theorem dX7_timeByBars_0 : decode cX7_timeByBars 0 = .ok (.aload_n 0, 1) := by decide +kernel
theorem dX7_timeByBars_1 : decode cX7_timeByBars 1 = .ok (.iload_n 1, 1) := by decide +kernel
theorem dX7_timeByBars_2 : decode cX7_timeByBars 2 = .ok (.invokevirtual 155, 3) := by decide +kernel
theorem dX7_timeByBars_5 : decode cX7_timeByBars 5 = .ok (.ireturn, 1) := by decide +kernel
theorem dX7_isSilent_0 : decode cX7_isSilent 0 = .ok (.iconst 1, 1) := by decide +kernel
theorem dX7_isSilent_1 : decode cX7_isSilent 1 = .ok (.istore_n 3, 1) := by decide +kernel
theorem dX7_isSilent_2 : decode cX7_isSilent 2 = .ok (.iload_n 1, 1) := by decide +kernel
theorem dX7_isSilent_3 : decode cX7_isSilent 3 = .ok (.iload_n 2, 1) := by decide +kernel
theorem dX7_isSilent_4 : decode cX7_isSilent 4 = .ok (.invokestatic 116, 3) := by decide +kernel
theorem dX7_isSilent_7 : decode cX7_isSilent 7 = .ok (.istore 4, 2) := by decide +kernel
theorem dX7_isSilent_9 : decode cX7_isSilent 9 = .ok (.iconst 0, 1) := by decide +kernel
theorem dX7_isSilent_10 : decode cX7_isSilent 10 = .ok (.istore 5, 2) := by decide +kernel
theorem dX7_isSilent_12 : decode cX7_isSilent 12 = .ok (.iload 5, 2) := by decide +kernel
theorem dX7_isSilent_14 : decode cX7_isSilent 14 = .ok (.aload_n 0, 1) := by decide +kernel
theorem dX7_isSilent_15 : decode cX7_isSilent 15 = .ok (.getfield 19, 3) := by decide +kernel
theorem dX7_isSilent_18 : decode cX7_isSilent 18 = .ok (.iload 4, 2) := by decide +kernel
theorem dX7_isSilent_20 : decode cX7_isSilent 20 = .ok (.iaload, 1) := by decide +kernel
theorem dX7_isSilent_21 : decode cX7_isSilent 21 = .ok (.if_icmp .ge 35, 3) := by decide +kernel
theorem dX7_isSilent_24 : decode cX7_isSilent 24 = .ok (.iload_n 3, 1) := by decide +kernel
theorem dX7_isSilent_25 : decode cX7_isSilent 25 = .ok (.ifCond .eq 23, 3) := by decide +kernel
theorem dX7_isSilent_28 : decode cX7_isSilent 28 = .ok (.aload_n 0, 1) := by decide +kernel
theorem dX7_isSilent_29 : decode cX7_isSilent 29 = .ok (.getfield 16, 3) := by decide +kernel
theorem dX7_isSilent_32 : decode cX7_isSilent 32 = .ok (.bipush 8, 2) := by decide +kernel
theorem dX7_isSilent_34 : decode cX7_isSilent 34 = .ok (.iload 4, 2) := by decide +kernel
theorem dX7_isSilent_36 : decode cX7_isSilent 36 = .ok (.imul, 1) := by decide +kernel
theorem dX7_isSilent_37 : decode cX7_isSilent 37 = .ok (.iload 5, 2) := by decide +kernel
theorem dX7_isSilent_39 : decode cX7_isSilent 39 = .ok (.iadd, 1) := by decide +kernel
theorem dX7_isSilent_40 : decode cX7_isSilent 40 = .ok (.iaload, 1) := by decide +kernel
theorem dX7_isSilent_41 : decode cX7_isSilent 41 = .ok (.ifCond .ne 7, 3) := by decide +kernel
theorem dX7_isSilent_44 : decode cX7_isSilent 44 = .ok (.iconst 1, 1) := by decide +kernel
theorem dX7_isSilent_45 : decode cX7_isSilent 45 = .ok (.goto 4, 3) := by decide +kernel
theorem dX7_isSilent_48 : decode cX7_isSilent 48 = .ok (.iconst 0, 1) := by decide +kernel
theorem dX7_isSilent_49 : decode cX7_isSilent 49 = .ok (.istore_n 3, 1) := by decide +kernel
theorem dX7_isSilent_50 : decode cX7_isSilent 50 = .ok (.iinc 5 1, 3) := by decide +kernel
theorem dX7_isSilent_53 : decode cX7_isSilent 53 = .ok (.goto (-41), 3) := by decide +kernel
theorem dX7_isSilent_56 : decode cX7_isSilent 56 = .ok (.iload_n 3, 1) := by decide +kernel
theorem dX7_isSilent_57 : decode cX7_isSilent 57 = .ok (.ireturn, 1) := by decide +kernel
theorem dX7_cueFor_0 : decode cX7_cueFor 0 = .ok (.iconst (-1), 1) := by decide +kernel
theorem dX7_cueFor_1 : decode cX7_cueFor 1 = .ok (.istore_n 3, 1) := by decide +kernel
theorem dX7_cueFor_2 : decode cX7_cueFor 2 = .ok (.iconst 0, 1) := by decide +kernel
theorem dX7_cueFor_3 : decode cX7_cueFor 3 = .ok (.istore 4, 2) := by decide +kernel
theorem dX7_cueFor_5 : decode cX7_cueFor 5 = .ok (.iload 4, 2) := by decide +kernel
theorem dX7_cueFor_7 : decode cX7_cueFor 7 = .ok (.iconst 5, 1) := by decide +kernel
theorem dX7_cueFor_8 : decode cX7_cueFor 8 = .ok (.if_icmp .ge 73, 3) := by decide +kernel
theorem dX7_cueFor_11 : decode cX7_cueFor 11 = .ok (.iload 4, 2) := by decide +kernel
theorem dX7_cueFor_13 : decode cX7_cueFor 13 = .ok (.iload_n 1, 1) := by decide +kernel
theorem dX7_cueFor_14 : decode cX7_cueFor 14 = .ok (.if_icmp .eq 17, 3) := by decide +kernel
theorem dX7_cueFor_17 : decode cX7_cueFor 17 = .ok (.aload_n 0, 1) := by decide +kernel
theorem dX7_cueFor_18 : decode cX7_cueFor 18 = .ok (.iload 4, 2) := by decide +kernel
theorem dX7_cueFor_20 : decode cX7_cueFor 20 = .ok (.iload_n 2, 1) := by decide +kernel
theorem dX7_cueFor_21 : decode cX7_cueFor 21 = .ok (.invokevirtual 158, 3) := by decide +kernel
theorem dX7_cueFor_24 : decode cX7_cueFor 24 = .ok (.ifCond .ne 7, 3) := by decide +kernel
theorem dX7_cueFor_27 : decode cX7_cueFor 27 = .ok (.iconst 1, 1) := by decide +kernel
theorem dX7_cueFor_28 : decode cX7_cueFor 28 = .ok (.goto 4, 3) := by decide +kernel
theorem dX7_cueFor_31 : decode cX7_cueFor 31 = .ok (.iconst 0, 1) := by decide +kernel
theorem dX7_cueFor_32 : decode cX7_cueFor 32 = .ok (.istore 5, 2) := by decide +kernel
theorem dX7_cueFor_34 : decode cX7_cueFor 34 = .ok (.iload 5, 2) := by decide +kernel
theorem dX7_cueFor_36 : decode cX7_cueFor 36 = .ok (.ifCond .eq 37, 3) := by decide +kernel
theorem dX7_cueFor_39 : decode cX7_cueFor 39 = .ok (.iload_n 3, 1) := by decide +kernel
theorem dX7_cueFor_40 : decode cX7_cueFor 40 = .ok (.iconst (-1), 1) := by decide +kernel
theorem dX7_cueFor_41 : decode cX7_cueFor 41 = .ok (.if_icmp .eq 27, 3) := by decide +kernel
theorem dX7_cueFor_44 : decode cX7_cueFor 44 = .ok (.aload_n 0, 1) := by decide +kernel
theorem dX7_cueFor_45 : decode cX7_cueFor 45 = .ok (.getfield 19, 3) := by decide +kernel
theorem dX7_cueFor_48 : decode cX7_cueFor 48 = .ok (.iload 4, 2) := by decide +kernel
theorem dX7_cueFor_50 : decode cX7_cueFor 50 = .ok (.iload_n 2, 1) := by decide +kernel
theorem dX7_cueFor_51 : decode cX7_cueFor 51 = .ok (.invokestatic 116, 3) := by decide +kernel
theorem dX7_cueFor_54 : decode cX7_cueFor 54 = .ok (.iaload, 1) := by decide +kernel
theorem dX7_cueFor_55 : decode cX7_cueFor 55 = .ok (.aload_n 0, 1) := by decide +kernel
theorem dX7_cueFor_56 : decode cX7_cueFor 56 = .ok (.getfield 19, 3) := by decide +kernel
theorem dX7_cueFor_59 : decode cX7_cueFor 59 = .ok (.iload_n 3, 1) := by decide +kernel
theorem dX7_cueFor_60 : decode cX7_cueFor 60 = .ok (.iload_n 2, 1) := by decide +kernel
theorem dX7_cueFor_61 : decode cX7_cueFor 61 = .ok (.invokestatic 116, 3) := by decide +kernel
theorem dX7_cueFor_64 : decode cX7_cueFor 64 = .ok (.iaload, 1) := by decide +kernel
theorem dX7_cueFor_65 : decode cX7_cueFor 65 = .ok (.if_icmp .le 8, 3) := by decide +kernel
theorem dX7_cueFor_68 : decode cX7_cueFor 68 = .ok (.iload 4, 2) := by decide +kernel
theorem dX7_cueFor_70 : decode cX7_cueFor 70 = .ok (.goto 4, 3) := by decide +kernel
theorem dX7_cueFor_73 : decode cX7_cueFor 73 = .ok (.iload_n 3, 1) := by decide +kernel
theorem dX7_cueFor_74 : decode cX7_cueFor 74 = .ok (.istore_n 3, 1) := by decide +kernel
theorem dX7_cueFor_75 : decode cX7_cueFor 75 = .ok (.iinc 4 1, 3) := by decide +kernel
theorem dX7_cueFor_78 : decode cX7_cueFor 78 = .ok (.goto (-73), 3) := by decide +kernel
theorem dX7_cueFor_81 : decode cX7_cueFor 81 = .ok (.iload_n 3, 1) := by decide +kernel
theorem dX7_cueFor_82 : decode cX7_cueFor 82 = .ok (.ireturn, 1) := by decide +kernel
theorem dX7_adds_0 : decode cX7_adds 0 = .ok (.aload_n 0, 1) := by decide +kernel
theorem dX7_adds_1 : decode cX7_adds 1 = .ok (.getfield 53, 3) := by decide +kernel
theorem dX7_adds_4 : decode cX7_adds 4 = .ok (.aload_n 0, 1) := by decide +kernel
theorem dX7_adds_5 : decode cX7_adds 5 = .ok (.getfield 161, 3) := by decide +kernel
theorem dX7_adds_8 : decode cX7_adds 8 = .ok (.iload_n 1, 1) := by decide +kernel
theorem dX7_adds_9 : decode cX7_adds 9 = .ok (.iastore, 1) := by decide +kernel
theorem dX7_adds_10 : decode cX7_adds 10 = .ok (.aload_n 0, 1) := by decide +kernel
theorem dX7_adds_11 : decode cX7_adds 11 = .ok (.getfield 56, 3) := by decide +kernel
theorem dX7_adds_14 : decode cX7_adds 14 = .ok (.aload_n 0, 1) := by decide +kernel
theorem dX7_adds_15 : decode cX7_adds 15 = .ok (.getfield 161, 3) := by decide +kernel
theorem dX7_adds_18 : decode cX7_adds 18 = .ok (.iload_n 2, 1) := by decide +kernel
theorem dX7_adds_19 : decode cX7_adds 19 = .ok (.iastore, 1) := by decide +kernel
theorem dX7_adds_20 : decode cX7_adds 20 = .ok (.aload_n 0, 1) := by decide +kernel
theorem dX7_adds_21 : decode cX7_adds 21 = .ok (.getfield 59, 3) := by decide +kernel
theorem dX7_adds_24 : decode cX7_adds 24 = .ok (.aload_n 0, 1) := by decide +kernel
theorem dX7_adds_25 : decode cX7_adds 25 = .ok (.getfield 161, 3) := by decide +kernel
theorem dX7_adds_28 : decode cX7_adds 28 = .ok (.iload_n 3, 1) := by decide +kernel
theorem dX7_adds_29 : decode cX7_adds 29 = .ok (.iastore, 1) := by decide +kernel
theorem dX7_adds_30 : decode cX7_adds 30 = .ok (.aload_n 0, 1) := by decide +kernel
theorem dX7_adds_31 : decode cX7_adds 31 = .ok (.dup, 1) := by decide +kernel
theorem dX7_adds_32 : decode cX7_adds 32 = .ok (.getfield 161, 3) := by decide +kernel
theorem dX7_adds_35 : decode cX7_adds 35 = .ok (.iconst 1, 1) := by decide +kernel
theorem dX7_adds_36 : decode cX7_adds 36 = .ok (.iadd, 1) := by decide +kernel
theorem dX7_adds_37 : decode cX7_adds 37 = .ok (.putfield 161, 3) := by decide +kernel
theorem dX7_adds_40 : decode cX7_adds 40 = .ok (.return_, 1) := by decide +kernel
theorem dX7_laysItems_0 : decode cX7_laysItems 0 = .ok (.aload_n 0, 1) := by decide +kernel
theorem dX7_laysItems_1 : decode cX7_laysItems 1 = .ok (.iconst 0, 1) := by decide +kernel
theorem dX7_laysItems_2 : decode cX7_laysItems 2 = .ok (.putfield 161, 3) := by decide +kernel
theorem dX7_laysItems_5 : decode cX7_laysItems 5 = .ok (.iconst 0, 1) := by decide +kernel
theorem dX7_laysItems_6 : decode cX7_laysItems 6 = .ok (.istore_n 2, 1) := by decide +kernel
theorem dX7_laysItems_7 : decode cX7_laysItems 7 = .ok (.iload_n 2, 1) := by decide +kernel
theorem dX7_laysItems_8 : decode cX7_laysItems 8 = .ok (.aload_n 0, 1) := by decide +kernel
theorem dX7_laysItems_9 : decode cX7_laysItems 9 = .ok (.getfield 99, 3) := by decide +kernel
theorem dX7_laysItems_12 : decode cX7_laysItems 12 = .ok (.if_icmp .ge 124, 3) := by decide +kernel
theorem dX7_laysItems_15 : decode cX7_laysItems 15 = .ok (.iload_n 2, 1) := by decide +kernel
theorem dX7_laysItems_16 : decode cX7_laysItems 16 = .ok (.istore_n 3, 1) := by decide +kernel
theorem dX7_laysItems_17 : decode cX7_laysItems 17 = .ok (.iload_n 1, 1) := by decide +kernel
theorem dX7_laysItems_18 : decode cX7_laysItems 18 = .ok (.iconst 5, 1) := by decide +kernel
theorem dX7_laysItems_19 : decode cX7_laysItems 19 = .ok (.if_icmp .eq 26, 3) := by decide +kernel
theorem dX7_laysItems_22 : decode cX7_laysItems 22 = .ok (.iload_n 3, 1) := by decide +kernel
theorem dX7_laysItems_23 : decode cX7_laysItems 23 = .ok (.aload_n 0, 1) := by decide +kernel
theorem dX7_laysItems_24 : decode cX7_laysItems 24 = .ok (.getfield 99, 3) := by decide +kernel
theorem dX7_laysItems_27 : decode cX7_laysItems 27 = .ok (.if_icmp .ge 18, 3) := by decide +kernel
theorem dX7_laysItems_30 : decode cX7_laysItems 30 = .ok (.aload_n 0, 1) := by decide +kernel
theorem dX7_laysItems_31 : decode cX7_laysItems 31 = .ok (.iload_n 1, 1) := by decide +kernel
theorem dX7_laysItems_32 : decode cX7_laysItems 32 = .ok (.iload_n 3, 1) := by decide +kernel
theorem dX7_laysItems_33 : decode cX7_laysItems 33 = .ok (.invokevirtual 158, 3) := by decide +kernel
theorem dX7_laysItems_36 : decode cX7_laysItems 36 = .ok (.ifCond .eq 9, 3) := by decide +kernel
theorem dX7_laysItems_39 : decode cX7_laysItems 39 = .ok (.iinc 3 1, 3) := by decide +kernel
theorem dX7_laysItems_42 : decode cX7_laysItems 42 = .ok (.goto (-25), 3) := by decide +kernel
theorem dX7_laysItems_45 : decode cX7_laysItems 45 = .ok (.iload_n 3, 1) := by decide +kernel
theorem dX7_laysItems_46 : decode cX7_laysItems 46 = .ok (.iload_n 2, 1) := by decide +kernel
theorem dX7_laysItems_47 : decode cX7_laysItems 47 = .ok (.if_icmp .ne 16, 3) := by decide +kernel
theorem dX7_laysItems_50 : decode cX7_laysItems 50 = .ok (.aload_n 0, 1) := by decide +kernel
theorem dX7_laysItems_51 : decode cX7_laysItems 51 = .ok (.iload_n 2, 1) := by decide +kernel
theorem dX7_laysItems_52 : decode cX7_laysItems 52 = .ok (.iload_n 2, 1) := by decide +kernel
theorem dX7_laysItems_53 : decode cX7_laysItems 53 = .ok (.iload_n 1, 1) := by decide +kernel
theorem dX7_laysItems_54 : decode cX7_laysItems 54 = .ok (.invokevirtual 164, 3) := by decide +kernel
theorem dX7_laysItems_57 : decode cX7_laysItems 57 = .ok (.iinc 3 1, 3) := by decide +kernel
theorem dX7_laysItems_60 : decode cX7_laysItems 60 = .ok (.goto 71, 3) := by decide +kernel
theorem dX7_laysItems_63 : decode cX7_laysItems 63 = .ok (.iload_n 3, 1) := by decide +kernel
theorem dX7_laysItems_64 : decode cX7_laysItems 64 = .ok (.iload_n 2, 1) := by decide +kernel
theorem dX7_laysItems_65 : decode cX7_laysItems 65 = .ok (.isub, 1) := by decide +kernel
theorem dX7_laysItems_66 : decode cX7_laysItems 66 = .ok (.iconst 3, 1) := by decide +kernel
theorem dX7_laysItems_67 : decode cX7_laysItems 67 = .ok (.if_icmp .lt 22, 3) := by decide +kernel
theorem dX7_laysItems_70 : decode cX7_laysItems 70 = .ok (.iload_n 3, 1) := by decide +kernel
theorem dX7_laysItems_71 : decode cX7_laysItems 71 = .ok (.aload_n 0, 1) := by decide +kernel
theorem dX7_laysItems_72 : decode cX7_laysItems 72 = .ok (.getfield 99, 3) := by decide +kernel
theorem dX7_laysItems_75 : decode cX7_laysItems 75 = .ok (.if_icmp .ge 14, 3) := by decide +kernel
theorem dX7_laysItems_78 : decode cX7_laysItems 78 = .ok (.aload_n 0, 1) := by decide +kernel
theorem dX7_laysItems_79 : decode cX7_laysItems 79 = .ok (.iload_n 1, 1) := by decide +kernel
theorem dX7_laysItems_80 : decode cX7_laysItems 80 = .ok (.iload_n 3, 1) := by decide +kernel
theorem dX7_laysItems_81 : decode cX7_laysItems 81 = .ok (.iconst 1, 1) := by decide +kernel
theorem dX7_laysItems_82 : decode cX7_laysItems 82 = .ok (.isub, 1) := by decide +kernel
theorem dX7_laysItems_83 : decode cX7_laysItems 83 = .ok (.invokevirtual 168, 3) := by decide +kernel
theorem dX7_laysItems_86 : decode cX7_laysItems 86 = .ok (.goto 4, 3) := by decide +kernel
theorem dX7_laysItems_89 : decode cX7_laysItems 89 = .ok (.iconst (-1), 1) := by decide +kernel
theorem dX7_laysItems_90 : decode cX7_laysItems 90 = .ok (.istore 4, 2) := by decide +kernel
theorem dX7_laysItems_92 : decode cX7_laysItems 92 = .ok (.aload_n 0, 1) := by decide +kernel
theorem dX7_laysItems_93 : decode cX7_laysItems 93 = .ok (.iload_n 2, 1) := by decide +kernel
theorem dX7_laysItems_94 : decode cX7_laysItems 94 = .ok (.iload 4, 2) := by decide +kernel
theorem dX7_laysItems_96 : decode cX7_laysItems 96 = .ok (.iconst (-1), 1) := by decide +kernel
theorem dX7_laysItems_97 : decode cX7_laysItems 97 = .ok (.if_icmp .ne 9, 3) := by decide +kernel
theorem dX7_laysItems_100 : decode cX7_laysItems 100 = .ok (.iload_n 3, 1) := by decide +kernel
theorem dX7_laysItems_101 : decode cX7_laysItems 101 = .ok (.iconst 1, 1) := by decide +kernel
theorem dX7_laysItems_102 : decode cX7_laysItems 102 = .ok (.isub, 1) := by decide +kernel
theorem dX7_laysItems_103 : decode cX7_laysItems 103 = .ok (.goto 6, 3) := by decide +kernel
theorem dX7_laysItems_106 : decode cX7_laysItems 106 = .ok (.iload_n 3, 1) := by decide +kernel
theorem dX7_laysItems_107 : decode cX7_laysItems 107 = .ok (.iconst 2, 1) := by decide +kernel
theorem dX7_laysItems_108 : decode cX7_laysItems 108 = .ok (.isub, 1) := by decide +kernel
theorem dX7_laysItems_109 : decode cX7_laysItems 109 = .ok (.iconst (-1), 1) := by decide +kernel
theorem dX7_laysItems_110 : decode cX7_laysItems 110 = .ok (.invokevirtual 164, 3) := by decide +kernel
theorem dX7_laysItems_113 : decode cX7_laysItems 113 = .ok (.iload 4, 2) := by decide +kernel
theorem dX7_laysItems_115 : decode cX7_laysItems 115 = .ok (.iconst (-1), 1) := by decide +kernel
theorem dX7_laysItems_116 : decode cX7_laysItems 116 = .ok (.if_icmp .eq 15, 3) := by decide +kernel
theorem dX7_laysItems_119 : decode cX7_laysItems 119 = .ok (.aload_n 0, 1) := by decide +kernel
theorem dX7_laysItems_120 : decode cX7_laysItems 120 = .ok (.iload_n 3, 1) := by decide +kernel
theorem dX7_laysItems_121 : decode cX7_laysItems 121 = .ok (.iconst 1, 1) := by decide +kernel
theorem dX7_laysItems_122 : decode cX7_laysItems 122 = .ok (.isub, 1) := by decide +kernel
theorem dX7_laysItems_123 : decode cX7_laysItems 123 = .ok (.iload_n 3, 1) := by decide +kernel
theorem dX7_laysItems_124 : decode cX7_laysItems 124 = .ok (.iconst 1, 1) := by decide +kernel
theorem dX7_laysItems_125 : decode cX7_laysItems 125 = .ok (.isub, 1) := by decide +kernel
theorem dX7_laysItems_126 : decode cX7_laysItems 126 = .ok (.iload 4, 2) := by decide +kernel
theorem dX7_laysItems_128 : decode cX7_laysItems 128 = .ok (.invokevirtual 164, 3) := by decide +kernel
theorem dX7_laysItems_131 : decode cX7_laysItems 131 = .ok (.iload_n 3, 1) := by decide +kernel
theorem dX7_laysItems_132 : decode cX7_laysItems 132 = .ok (.istore_n 2, 1) := by decide +kernel
theorem dX7_laysItems_133 : decode cX7_laysItems 133 = .ok (.goto (-126), 3) := by decide +kernel
theorem dX7_laysItems_136 : decode cX7_laysItems 136 = .ok (.return_, 1) := by decide +kernel
theorem dX7_begins_0 : decode cX7_begins 0 = .ok (.iload_n 1, 1) := by decide +kernel
theorem dX7_begins_1 : decode cX7_begins 1 = .ok (.iload_n 2, 1) := by decide +kernel
theorem dX7_begins_2 : decode cX7_begins 2 = .ok (.invokestatic 116, 3) := by decide +kernel
theorem dX7_begins_5 : decode cX7_begins 5 = .ok (.istore 4, 2) := by decide +kernel
theorem dX7_begins_7 : decode cX7_begins 7 = .ok (.iconst 0, 1) := by decide +kernel
theorem dX7_begins_8 : decode cX7_begins 8 = .ok (.istore 5, 2) := by decide +kernel
theorem dX7_begins_10 : decode cX7_begins 10 = .ok (.iconst 0, 1) := by decide +kernel
theorem dX7_begins_11 : decode cX7_begins 11 = .ok (.istore 6, 2) := by decide +kernel
theorem dX7_begins_13 : decode cX7_begins 13 = .ok (.iload 6, 2) := by decide +kernel
theorem dX7_begins_15 : decode cX7_begins 15 = .ok (.aload_n 0, 1) := by decide +kernel
theorem dX7_begins_16 : decode cX7_begins 16 = .ok (.getfield 19, 3) := by decide +kernel
theorem dX7_begins_19 : decode cX7_begins 19 = .ok (.iload 4, 2) := by decide +kernel
theorem dX7_begins_21 : decode cX7_begins 21 = .ok (.iaload, 1) := by decide +kernel
theorem dX7_begins_22 : decode cX7_begins 22 = .ok (.if_icmp .ge 55, 3) := by decide +kernel
theorem dX7_begins_25 : decode cX7_begins 25 = .ok (.iload 5, 2) := by decide +kernel
theorem dX7_begins_27 : decode cX7_begins 27 = .ok (.iload_n 3, 1) := by decide +kernel
theorem dX7_begins_28 : decode cX7_begins 28 = .ok (.if_icmp .ne 25, 3) := by decide +kernel
theorem dX7_begins_31 : decode cX7_begins 31 = .ok (.aload_n 0, 1) := by decide +kernel
theorem dX7_begins_32 : decode cX7_begins 32 = .ok (.getfield 16, 3) := by decide +kernel
theorem dX7_begins_35 : decode cX7_begins 35 = .ok (.bipush 8, 2) := by decide +kernel
theorem dX7_begins_37 : decode cX7_begins 37 = .ok (.iload 4, 2) := by decide +kernel
theorem dX7_begins_39 : decode cX7_begins 39 = .ok (.imul, 1) := by decide +kernel
theorem dX7_begins_40 : decode cX7_begins 40 = .ok (.iload 6, 2) := by decide +kernel
theorem dX7_begins_42 : decode cX7_begins 42 = .ok (.iadd, 1) := by decide +kernel
theorem dX7_begins_43 : decode cX7_begins 43 = .ok (.iaload, 1) := by decide +kernel
theorem dX7_begins_44 : decode cX7_begins 44 = .ok (.ifCond .le 7, 3) := by decide +kernel
theorem dX7_begins_47 : decode cX7_begins 47 = .ok (.iconst 2, 1) := by decide +kernel
theorem dX7_begins_48 : decode cX7_begins 48 = .ok (.goto 4, 3) := by decide +kernel
theorem dX7_begins_51 : decode cX7_begins 51 = .ok (.iconst 1, 1) := by decide +kernel
theorem dX7_begins_52 : decode cX7_begins 52 = .ok (.ireturn, 1) := by decide +kernel
theorem dX7_begins_53 : decode cX7_begins 53 = .ok (.iload 5, 2) := by decide +kernel
theorem dX7_begins_55 : decode cX7_begins 55 = .ok (.aload_n 0, 1) := by decide +kernel
theorem dX7_begins_56 : decode cX7_begins 56 = .ok (.getfield 13, 3) := by decide +kernel
theorem dX7_begins_59 : decode cX7_begins 59 = .ok (.bipush 8, 2) := by decide +kernel
theorem dX7_begins_61 : decode cX7_begins 61 = .ok (.iload 4, 2) := by decide +kernel
theorem dX7_begins_63 : decode cX7_begins 63 = .ok (.imul, 1) := by decide +kernel
theorem dX7_begins_64 : decode cX7_begins 64 = .ok (.iload 6, 2) := by decide +kernel
theorem dX7_begins_66 : decode cX7_begins 66 = .ok (.iadd, 1) := by decide +kernel
theorem dX7_begins_67 : decode cX7_begins 67 = .ok (.iaload, 1) := by decide +kernel
theorem dX7_begins_68 : decode cX7_begins 68 = .ok (.iadd, 1) := by decide +kernel
theorem dX7_begins_69 : decode cX7_begins 69 = .ok (.istore 5, 2) := by decide +kernel
theorem dX7_begins_71 : decode cX7_begins 71 = .ok (.iinc 6 1, 3) := by decide +kernel
theorem dX7_begins_74 : decode cX7_begins 74 = .ok (.goto (-61), 3) := by decide +kernel
theorem dX7_begins_77 : decode cX7_begins 77 = .ok (.iload 5, 2) := by decide +kernel
theorem dX7_begins_79 : decode cX7_begins 79 = .ok (.iload_n 3, 1) := by decide +kernel
theorem dX7_begins_80 : decode cX7_begins 80 = .ok (.if_icmp .ne 18, 3) := by decide +kernel
theorem dX7_begins_83 : decode cX7_begins 83 = .ok (.iload 5, 2) := by decide +kernel
theorem dX7_begins_85 : decode cX7_begins 85 = .ok (.aload_n 0, 1) := by decide +kernel
theorem dX7_begins_86 : decode cX7_begins 86 = .ok (.getfield 7, 3) := by decide +kernel
theorem dX7_begins_89 : decode cX7_begins 89 = .ok (.iload_n 2, 1) := by decide +kernel
theorem dX7_begins_90 : decode cX7_begins 90 = .ok (.iaload, 1) := by decide +kernel
theorem dX7_begins_91 : decode cX7_begins 91 = .ok (.if_icmp .ge 7, 3) := by decide +kernel
theorem dX7_begins_94 : decode cX7_begins 94 = .ok (.iconst 1, 1) := by decide +kernel
theorem dX7_begins_95 : decode cX7_begins 95 = .ok (.goto 4, 3) := by decide +kernel
theorem dX7_begins_98 : decode cX7_begins 98 = .ok (.iconst 0, 1) := by decide +kernel
theorem dX7_begins_99 : decode cX7_begins 99 = .ok (.ireturn, 1) := by decide +kernel
theorem dX7_halvings_0 : decode cX7_halvings 0 = .ok (.iconst 0, 1) := by decide +kernel
theorem dX7_halvings_1 : decode cX7_halvings 1 = .ok (.istore_n 1, 1) := by decide +kernel
theorem dX7_halvings_2 : decode cX7_halvings 2 = .ok (.iload_n 0, 1) := by decide +kernel
theorem dX7_halvings_3 : decode cX7_halvings 3 = .ok (.istore_n 2, 1) := by decide +kernel
theorem dX7_halvings_4 : decode cX7_halvings 4 = .ok (.iload_n 2, 1) := by decide +kernel
theorem dX7_halvings_5 : decode cX7_halvings 5 = .ok (.iconst 1, 1) := by decide +kernel
theorem dX7_halvings_6 : decode cX7_halvings 6 = .ok (.if_icmp .le 13, 3) := by decide +kernel
theorem dX7_halvings_9 : decode cX7_halvings 9 = .ok (.iload_n 2, 1) := by decide +kernel
theorem dX7_halvings_10 : decode cX7_halvings 10 = .ok (.iconst 2, 1) := by decide +kernel
theorem dX7_halvings_11 : decode cX7_halvings 11 = .ok (.idiv, 1) := by decide +kernel
theorem dX7_halvings_12 : decode cX7_halvings 12 = .ok (.istore_n 2, 1) := by decide +kernel
theorem dX7_halvings_13 : decode cX7_halvings 13 = .ok (.iinc 1 1, 3) := by decide +kernel
theorem dX7_halvings_16 : decode cX7_halvings 16 = .ok (.goto (-12), 3) := by decide +kernel
theorem dX7_halvings_19 : decode cX7_halvings 19 = .ok (.iload_n 1, 1) := by decide +kernel
theorem dX7_halvings_20 : decode cX7_halvings 20 = .ok (.ireturn, 1) := by decide +kernel
theorem dX7_laysSprings_0 : decode cX7_laysSprings 0 = .ok (.aload_n 0, 1) := by decide +kernel
theorem dX7_laysSprings_1 : decode cX7_laysSprings 1 = .ok (.getfield 62, 3) := by decide +kernel
theorem dX7_laysSprings_4 : decode cX7_laysSprings 4 = .ok (.iconst 0, 1) := by decide +kernel
theorem dX7_laysSprings_5 : decode cX7_laysSprings 5 = .ok (.iconst 0, 1) := by decide +kernel
theorem dX7_laysSprings_6 : decode cX7_laysSprings 6 = .ok (.iastore, 1) := by decide +kernel
theorem dX7_laysSprings_7 : decode cX7_laysSprings 7 = .ok (.iconst 0, 1) := by decide +kernel
theorem dX7_laysSprings_8 : decode cX7_laysSprings 8 = .ok (.istore_n 1, 1) := by decide +kernel
theorem dX7_laysSprings_9 : decode cX7_laysSprings 9 = .ok (.iload_n 1, 1) := by decide +kernel
theorem dX7_laysSprings_10 : decode cX7_laysSprings 10 = .ok (.aload_n 0, 1) := by decide +kernel
theorem dX7_laysSprings_11 : decode cX7_laysSprings 11 = .ok (.getfield 161, 3) := by decide +kernel
theorem dX7_laysSprings_14 : decode cX7_laysSprings 14 = .ok (.if_icmp .ge 405, 3) := by decide +kernel
theorem dX7_laysSprings_17 : decode cX7_laysSprings 17 = .ok (.aload_n 0, 1) := by decide +kernel
theorem dX7_laysSprings_18 : decode cX7_laysSprings 18 = .ok (.getfield 62, 3) := by decide +kernel
theorem dX7_laysSprings_21 : decode cX7_laysSprings 21 = .ok (.iload_n 1, 1) := by decide +kernel
theorem dX7_laysSprings_22 : decode cX7_laysSprings 22 = .ok (.iaload, 1) := by decide +kernel
theorem dX7_laysSprings_23 : decode cX7_laysSprings 23 = .ok (.istore_n 2, 1) := by decide +kernel
theorem dX7_laysSprings_24 : decode cX7_laysSprings 24 = .ok (.aload_n 0, 1) := by decide +kernel
theorem dX7_laysSprings_25 : decode cX7_laysSprings 25 = .ok (.getfield 53, 3) := by decide +kernel
theorem dX7_laysSprings_28 : decode cX7_laysSprings 28 = .ok (.iload_n 1, 1) := by decide +kernel
theorem dX7_laysSprings_29 : decode cX7_laysSprings 29 = .ok (.iaload, 1) := by decide +kernel
theorem dX7_laysSprings_30 : decode cX7_laysSprings 30 = .ok (.istore_n 3, 1) := by decide +kernel
theorem dX7_laysSprings_31 : decode cX7_laysSprings 31 = .ok (.aload_n 0, 1) := by decide +kernel
theorem dX7_laysSprings_32 : decode cX7_laysSprings 32 = .ok (.getfield 59, 3) := by decide +kernel
theorem dX7_laysSprings_35 : decode cX7_laysSprings 35 = .ok (.iload_n 1, 1) := by decide +kernel
theorem dX7_laysSprings_36 : decode cX7_laysSprings 36 = .ok (.iaload, 1) := by decide +kernel
theorem dX7_laysSprings_37 : decode cX7_laysSprings 37 = .ok (.iconst 5, 1) := by decide +kernel
theorem dX7_laysSprings_38 : decode cX7_laysSprings 38 = .ok (.if_icmp .ne 7, 3) := by decide +kernel
theorem dX7_laysSprings_41 : decode cX7_laysSprings 41 = .ok (.iconst 0, 1) := by decide +kernel
theorem dX7_laysSprings_42 : decode cX7_laysSprings 42 = .ok (.goto 9, 3) := by decide +kernel
theorem dX7_laysSprings_45 : decode cX7_laysSprings 45 = .ok (.aload_n 0, 1) := by decide +kernel
theorem dX7_laysSprings_46 : decode cX7_laysSprings 46 = .ok (.getfield 59, 3) := by decide +kernel
theorem dX7_laysSprings_49 : decode cX7_laysSprings 49 = .ok (.iload_n 1, 1) := by decide +kernel
theorem dX7_laysSprings_50 : decode cX7_laysSprings 50 = .ok (.iaload, 1) := by decide +kernel
theorem dX7_laysSprings_51 : decode cX7_laysSprings 51 = .ok (.istore 4, 2) := by decide +kernel
theorem dX7_laysSprings_53 : decode cX7_laysSprings 53 = .ok (.aload_n 0, 1) := by decide +kernel
theorem dX7_laysSprings_54 : decode cX7_laysSprings 54 = .ok (.getfield 59, 3) := by decide +kernel
theorem dX7_laysSprings_57 : decode cX7_laysSprings 57 = .ok (.iload_n 1, 1) := by decide +kernel
theorem dX7_laysSprings_58 : decode cX7_laysSprings 58 = .ok (.iaload, 1) := by decide +kernel
theorem dX7_laysSprings_59 : decode cX7_laysSprings 59 = .ok (.iconst 5, 1) := by decide +kernel
theorem dX7_laysSprings_60 : decode cX7_laysSprings 60 = .ok (.if_icmp .ne 7, 3) := by decide +kernel
theorem dX7_laysSprings_63 : decode cX7_laysSprings 63 = .ok (.iconst 4, 1) := by decide +kernel
theorem dX7_laysSprings_64 : decode cX7_laysSprings 64 = .ok (.goto 9, 3) := by decide +kernel
theorem dX7_laysSprings_67 : decode cX7_laysSprings 67 = .ok (.aload_n 0, 1) := by decide +kernel
theorem dX7_laysSprings_68 : decode cX7_laysSprings 68 = .ok (.getfield 59, 3) := by decide +kernel
theorem dX7_laysSprings_71 : decode cX7_laysSprings 71 = .ok (.iload_n 1, 1) := by decide +kernel
theorem dX7_laysSprings_72 : decode cX7_laysSprings 72 = .ok (.iaload, 1) := by decide +kernel
theorem dX7_laysSprings_73 : decode cX7_laysSprings 73 = .ok (.istore 5, 2) := by decide +kernel
theorem dX7_laysSprings_75 : decode cX7_laysSprings 75 = .ok (.iconst 0, 1) := by decide +kernel
theorem dX7_laysSprings_76 : decode cX7_laysSprings 76 = .ok (.istore 6, 2) := by decide +kernel
theorem dX7_laysSprings_78 : decode cX7_laysSprings 78 = .ok (.iload 6, 2) := by decide +kernel
theorem dX7_laysSprings_80 : decode cX7_laysSprings 80 = .ok (.aload_n 0, 1) := by decide +kernel
theorem dX7_laysSprings_81 : decode cX7_laysSprings 81 = .ok (.getfield 7, 3) := by decide +kernel
theorem dX7_laysSprings_84 : decode cX7_laysSprings 84 = .ok (.iload_n 3, 1) := by decide +kernel
theorem dX7_laysSprings_85 : decode cX7_laysSprings 85 = .ok (.iaload, 1) := by decide +kernel
theorem dX7_laysSprings_86 : decode cX7_laysSprings 86 = .ok (.if_icmp .ge 115, 3) := by decide +kernel
theorem dX7_laysSprings_89 : decode cX7_laysSprings 89 = .ok (.aload_n 0, 1) := by decide +kernel
theorem dX7_laysSprings_90 : decode cX7_laysSprings 90 = .ok (.getfield 59, 3) := by decide +kernel
theorem dX7_laysSprings_93 : decode cX7_laysSprings 93 = .ok (.iload_n 1, 1) := by decide +kernel
theorem dX7_laysSprings_94 : decode cX7_laysSprings 94 = .ok (.iaload, 1) := by decide +kernel
theorem dX7_laysSprings_95 : decode cX7_laysSprings 95 = .ok (.iconst (-1), 1) := by decide +kernel
theorem dX7_laysSprings_96 : decode cX7_laysSprings 96 = .ok (.if_icmp .eq 105, 3) := by decide +kernel
theorem dX7_laysSprings_99 : decode cX7_laysSprings 99 = .ok (.iconst 0, 1) := by decide +kernel
theorem dX7_laysSprings_100 : decode cX7_laysSprings 100 = .ok (.istore 7, 2) := by decide +kernel
theorem dX7_laysSprings_102 : decode cX7_laysSprings 102 = .ok (.iconst 0, 1) := by decide +kernel
theorem dX7_laysSprings_103 : decode cX7_laysSprings 103 = .ok (.istore 8, 2) := by decide +kernel
theorem dX7_laysSprings_105 : decode cX7_laysSprings 105 = .ok (.iload 4, 2) := by decide +kernel
theorem dX7_laysSprings_107 : decode cX7_laysSprings 107 = .ok (.istore 9, 2) := by decide +kernel
theorem dX7_laysSprings_109 : decode cX7_laysSprings 109 = .ok (.iload 9, 2) := by decide +kernel
theorem dX7_laysSprings_111 : decode cX7_laysSprings 111 = .ok (.iload 5, 2) := by decide +kernel
theorem dX7_laysSprings_113 : decode cX7_laysSprings 113 = .ok (.if_icmp .gt 51, 3) := by decide +kernel
theorem dX7_laysSprings_116 : decode cX7_laysSprings 116 = .ok (.aload_n 0, 1) := by decide +kernel
theorem dX7_laysSprings_117 : decode cX7_laysSprings 117 = .ok (.iload 9, 2) := by decide +kernel
theorem dX7_laysSprings_119 : decode cX7_laysSprings 119 = .ok (.iload_n 3, 1) := by decide +kernel
theorem dX7_laysSprings_120 : decode cX7_laysSprings 120 = .ok (.iload 6, 2) := by decide +kernel
theorem dX7_laysSprings_122 : decode cX7_laysSprings 122 = .ok (.invokevirtual 171, 3) := by decide +kernel
theorem dX7_laysSprings_125 : decode cX7_laysSprings 125 = .ok (.istore 10, 2) := by decide +kernel
theorem dX7_laysSprings_127 : decode cX7_laysSprings 127 = .ok (.iload 7, 2) := by decide +kernel
theorem dX7_laysSprings_129 : decode cX7_laysSprings 129 = .ok (.iload 10, 2) := by decide +kernel
theorem dX7_laysSprings_131 : decode cX7_laysSprings 131 = .ok (.ifCond .le 7, 3) := by decide +kernel
theorem dX7_laysSprings_134 : decode cX7_laysSprings 134 = .ok (.iconst 1, 1) := by decide +kernel
theorem dX7_laysSprings_135 : decode cX7_laysSprings 135 = .ok (.goto 4, 3) := by decide +kernel
theorem dX7_laysSprings_138 : decode cX7_laysSprings 138 = .ok (.iconst 0, 1) := by decide +kernel
theorem dX7_laysSprings_139 : decode cX7_laysSprings 139 = .ok (.iadd, 1) := by decide +kernel
theorem dX7_laysSprings_140 : decode cX7_laysSprings 140 = .ok (.istore 7, 2) := by decide +kernel
theorem dX7_laysSprings_142 : decode cX7_laysSprings 142 = .ok (.iload 8, 2) := by decide +kernel
theorem dX7_laysSprings_144 : decode cX7_laysSprings 144 = .ok (.iload 10, 2) := by decide +kernel
theorem dX7_laysSprings_146 : decode cX7_laysSprings 146 = .ok (.iconst 2, 1) := by decide +kernel
theorem dX7_laysSprings_147 : decode cX7_laysSprings 147 = .ok (.if_icmp .ne 7, 3) := by decide +kernel
theorem dX7_laysSprings_150 : decode cX7_laysSprings 150 = .ok (.iconst 1, 1) := by decide +kernel
theorem dX7_laysSprings_151 : decode cX7_laysSprings 151 = .ok (.goto 4, 3) := by decide +kernel
theorem dX7_laysSprings_154 : decode cX7_laysSprings 154 = .ok (.iconst 0, 1) := by decide +kernel
theorem dX7_laysSprings_155 : decode cX7_laysSprings 155 = .ok (.iadd, 1) := by decide +kernel
theorem dX7_laysSprings_156 : decode cX7_laysSprings 156 = .ok (.istore 8, 2) := by decide +kernel
theorem dX7_laysSprings_158 : decode cX7_laysSprings 158 = .ok (.iinc 9 1, 3) := by decide +kernel
theorem dX7_laysSprings_161 : decode cX7_laysSprings 161 = .ok (.goto (-52), 3) := by decide +kernel
theorem dX7_laysSprings_164 : decode cX7_laysSprings 164 = .ok (.iload 6, 2) := by decide +kernel
theorem dX7_laysSprings_166 : decode cX7_laysSprings 166 = .ok (.ifCond .eq 8, 3) := by decide +kernel
theorem dX7_laysSprings_169 : decode cX7_laysSprings 169 = .ok (.iload 7, 2) := by decide +kernel
theorem dX7_laysSprings_171 : decode cX7_laysSprings 171 = .ok (.ifCond .le 24, 3) := by decide +kernel
theorem dX7_laysSprings_174 : decode cX7_laysSprings 174 = .ok (.aload_n 0, 1) := by decide +kernel
theorem dX7_laysSprings_175 : decode cX7_laysSprings 175 = .ok (.getfield 65, 3) := by decide +kernel
theorem dX7_laysSprings_178 : decode cX7_laysSprings 178 = .ok (.iload_n 2, 1) := by decide +kernel
theorem dX7_laysSprings_179 : decode cX7_laysSprings 179 = .ok (.iload 6, 2) := by decide +kernel
theorem dX7_laysSprings_181 : decode cX7_laysSprings 181 = .ok (.iastore, 1) := by decide +kernel
theorem dX7_laysSprings_182 : decode cX7_laysSprings 182 = .ok (.aload_n 0, 1) := by decide +kernel
theorem dX7_laysSprings_183 : decode cX7_laysSprings 183 = .ok (.getfield 71, 3) := by decide +kernel
theorem dX7_laysSprings_186 : decode cX7_laysSprings 186 = .ok (.iload_n 2, 1) := by decide +kernel
theorem dX7_laysSprings_187 : decode cX7_laysSprings 187 = .ok (.iconst 4, 1) := by decide +kernel
theorem dX7_laysSprings_188 : decode cX7_laysSprings 188 = .ok (.iload 8, 2) := by decide +kernel
theorem dX7_laysSprings_190 : decode cX7_laysSprings 190 = .ok (.iadd, 1) := by decide +kernel
theorem dX7_laysSprings_191 : decode cX7_laysSprings 191 = .ok (.iastore, 1) := by decide +kernel
theorem dX7_laysSprings_192 : decode cX7_laysSprings 192 = .ok (.iinc 2 1, 3) := by decide +kernel
theorem dX7_laysSprings_195 : decode cX7_laysSprings 195 = .ok (.iinc 6 1, 3) := by decide +kernel
theorem dX7_laysSprings_198 : decode cX7_laysSprings 198 = .ok (.goto (-120), 3) := by decide +kernel
theorem dX7_laysSprings_201 : decode cX7_laysSprings 201 = .ok (.aload_n 0, 1) := by decide +kernel
theorem dX7_laysSprings_202 : decode cX7_laysSprings 202 = .ok (.getfield 62, 3) := by decide +kernel
theorem dX7_laysSprings_205 : decode cX7_laysSprings 205 = .ok (.iload_n 1, 1) := by decide +kernel
theorem dX7_laysSprings_206 : decode cX7_laysSprings 206 = .ok (.iaload, 1) := by decide +kernel
theorem dX7_laysSprings_207 : decode cX7_laysSprings 207 = .ok (.istore 6, 2) := by decide +kernel
theorem dX7_laysSprings_209 : decode cX7_laysSprings 209 = .ok (.iload 6, 2) := by decide +kernel
theorem dX7_laysSprings_211 : decode cX7_laysSprings 211 = .ok (.iload_n 2, 1) := by decide +kernel
theorem dX7_laysSprings_212 : decode cX7_laysSprings 212 = .ok (.if_icmp .ge 88, 3) := by decide +kernel
theorem dX7_laysSprings_215 : decode cX7_laysSprings 215 = .ok (.iload 6, 2) := by decide +kernel
theorem dX7_laysSprings_217 : decode cX7_laysSprings 217 = .ok (.iconst 1, 1) := by decide +kernel
theorem dX7_laysSprings_218 : decode cX7_laysSprings 218 = .ok (.iadd, 1) := by decide +kernel
theorem dX7_laysSprings_219 : decode cX7_laysSprings 219 = .ok (.iload_n 2, 1) := by decide +kernel
theorem dX7_laysSprings_220 : decode cX7_laysSprings 220 = .ok (.if_icmp .ge 15, 3) := by decide +kernel
theorem dX7_laysSprings_223 : decode cX7_laysSprings 223 = .ok (.aload_n 0, 1) := by decide +kernel
theorem dX7_laysSprings_224 : decode cX7_laysSprings 224 = .ok (.getfield 65, 3) := by decide +kernel
theorem dX7_laysSprings_227 : decode cX7_laysSprings 227 = .ok (.iload 6, 2) := by decide +kernel
theorem dX7_laysSprings_229 : decode cX7_laysSprings 229 = .ok (.iconst 1, 1) := by decide +kernel
theorem dX7_laysSprings_230 : decode cX7_laysSprings 230 = .ok (.iadd, 1) := by decide +kernel
theorem dX7_laysSprings_231 : decode cX7_laysSprings 231 = .ok (.iaload, 1) := by decide +kernel
theorem dX7_laysSprings_232 : decode cX7_laysSprings 232 = .ok (.goto 9, 3) := by decide +kernel
theorem dX7_laysSprings_235 : decode cX7_laysSprings 235 = .ok (.aload_n 0, 1) := by decide +kernel
theorem dX7_laysSprings_236 : decode cX7_laysSprings 236 = .ok (.getfield 7, 3) := by decide +kernel
theorem dX7_laysSprings_239 : decode cX7_laysSprings 239 = .ok (.iload_n 3, 1) := by decide +kernel
theorem dX7_laysSprings_240 : decode cX7_laysSprings 240 = .ok (.iaload, 1) := by decide +kernel
theorem dX7_laysSprings_241 : decode cX7_laysSprings 241 = .ok (.aload_n 0, 1) := by decide +kernel
theorem dX7_laysSprings_242 : decode cX7_laysSprings 242 = .ok (.getfield 65, 3) := by decide +kernel
theorem dX7_laysSprings_245 : decode cX7_laysSprings 245 = .ok (.iload 6, 2) := by decide +kernel
theorem dX7_laysSprings_247 : decode cX7_laysSprings 247 = .ok (.iaload, 1) := by decide +kernel
theorem dX7_laysSprings_248 : decode cX7_laysSprings 248 = .ok (.isub, 1) := by decide +kernel
theorem dX7_laysSprings_249 : decode cX7_laysSprings 249 = .ok (.istore 7, 2) := by decide +kernel
theorem dX7_laysSprings_251 : decode cX7_laysSprings 251 = .ok (.bipush 6, 2) := by decide +kernel
theorem dX7_laysSprings_253 : decode cX7_laysSprings 253 = .ok (.iconst 3, 1) := by decide +kernel
theorem dX7_laysSprings_254 : decode cX7_laysSprings 254 = .ok (.iload 7, 2) := by decide +kernel
theorem dX7_laysSprings_256 : decode cX7_laysSprings 256 = .ok (.invokestatic 174, 3) := by decide +kernel
theorem dX7_laysSprings_259 : decode cX7_laysSprings 259 = .ok (.imul, 1) := by decide +kernel
theorem dX7_laysSprings_260 : decode cX7_laysSprings 260 = .ok (.iadd, 1) := by decide +kernel
theorem dX7_laysSprings_261 : decode cX7_laysSprings 261 = .ok (.istore 8, 2) := by decide +kernel
theorem dX7_laysSprings_263 : decode cX7_laysSprings 263 = .ok (.aload_n 0, 1) := by decide +kernel
theorem dX7_laysSprings_264 : decode cX7_laysSprings 264 = .ok (.getfield 68, 3) := by decide +kernel
theorem dX7_laysSprings_267 : decode cX7_laysSprings 267 = .ok (.iload 6, 2) := by decide +kernel
theorem dX7_laysSprings_269 : decode cX7_laysSprings 269 = .ok (.iload 8, 2) := by decide +kernel
theorem dX7_laysSprings_271 : decode cX7_laysSprings 271 = .ok (.aload_n 0, 1) := by decide +kernel
theorem dX7_laysSprings_272 : decode cX7_laysSprings 272 = .ok (.getfield 71, 3) := by decide +kernel
theorem dX7_laysSprings_275 : decode cX7_laysSprings 275 = .ok (.iload 6, 2) := by decide +kernel
theorem dX7_laysSprings_277 : decode cX7_laysSprings 277 = .ok (.iaload, 1) := by decide +kernel
theorem dX7_laysSprings_278 : decode cX7_laysSprings 278 = .ok (.if_icmp .ge 13, 3) := by decide +kernel
theorem dX7_laysSprings_281 : decode cX7_laysSprings 281 = .ok (.aload_n 0, 1) := by decide +kernel
theorem dX7_laysSprings_282 : decode cX7_laysSprings 282 = .ok (.getfield 71, 3) := by decide +kernel
theorem dX7_laysSprings_285 : decode cX7_laysSprings 285 = .ok (.iload 6, 2) := by decide +kernel
theorem dX7_laysSprings_287 : decode cX7_laysSprings 287 = .ok (.iaload, 1) := by decide +kernel
theorem dX7_laysSprings_288 : decode cX7_laysSprings 288 = .ok (.goto 5, 3) := by decide +kernel
theorem dX7_laysSprings_291 : decode cX7_laysSprings 291 = .ok (.iload 8, 2) := by decide +kernel
theorem dX7_laysSprings_293 : decode cX7_laysSprings 293 = .ok (.iastore, 1) := by decide +kernel
theorem dX7_laysSprings_294 : decode cX7_laysSprings 294 = .ok (.iinc 6 1, 3) := by decide +kernel
theorem dX7_laysSprings_297 : decode cX7_laysSprings 297 = .ok (.goto (-88), 3) := by decide +kernel
theorem dX7_laysSprings_300 : decode cX7_laysSprings 300 = .ok (.aload_n 0, 1) := by decide +kernel
theorem dX7_laysSprings_301 : decode cX7_laysSprings 301 = .ok (.getfield 59, 3) := by decide +kernel
theorem dX7_laysSprings_304 : decode cX7_laysSprings 304 = .ok (.iload_n 1, 1) := by decide +kernel
theorem dX7_laysSprings_305 : decode cX7_laysSprings 305 = .ok (.iaload, 1) := by decide +kernel
theorem dX7_laysSprings_306 : decode cX7_laysSprings 306 = .ok (.iconst (-1), 1) := by decide +kernel
theorem dX7_laysSprings_307 : decode cX7_laysSprings 307 = .ok (.if_icmp .ne 29, 3) := by decide +kernel
theorem dX7_laysSprings_310 : decode cX7_laysSprings 310 = .ok (.aload_n 0, 1) := by decide +kernel
theorem dX7_laysSprings_311 : decode cX7_laysSprings 311 = .ok (.getfield 65, 3) := by decide +kernel
theorem dX7_laysSprings_314 : decode cX7_laysSprings 314 = .ok (.iload_n 2, 1) := by decide +kernel
theorem dX7_laysSprings_315 : decode cX7_laysSprings 315 = .ok (.iconst 0, 1) := by decide +kernel
theorem dX7_laysSprings_316 : decode cX7_laysSprings 316 = .ok (.iastore, 1) := by decide +kernel
theorem dX7_laysSprings_317 : decode cX7_laysSprings 317 = .ok (.aload_n 0, 1) := by decide +kernel
theorem dX7_laysSprings_318 : decode cX7_laysSprings 318 = .ok (.getfield 68, 3) := by decide +kernel
theorem dX7_laysSprings_321 : decode cX7_laysSprings 321 = .ok (.iload_n 2, 1) := by decide +kernel
theorem dX7_laysSprings_322 : decode cX7_laysSprings 322 = .ok (.bipush 24, 2) := by decide +kernel
theorem dX7_laysSprings_324 : decode cX7_laysSprings 324 = .ok (.iastore, 1) := by decide +kernel
theorem dX7_laysSprings_325 : decode cX7_laysSprings 325 = .ok (.aload_n 0, 1) := by decide +kernel
theorem dX7_laysSprings_326 : decode cX7_laysSprings 326 = .ok (.getfield 71, 3) := by decide +kernel
theorem dX7_laysSprings_329 : decode cX7_laysSprings 329 = .ok (.iload_n 2, 1) := by decide +kernel
theorem dX7_laysSprings_330 : decode cX7_laysSprings 330 = .ok (.bipush 16, 2) := by decide +kernel
theorem dX7_laysSprings_332 : decode cX7_laysSprings 332 = .ok (.iastore, 1) := by decide +kernel
theorem dX7_laysSprings_333 : decode cX7_laysSprings 333 = .ok (.iinc 2 1, 3) := by decide +kernel
theorem dX7_laysSprings_336 : decode cX7_laysSprings 336 = .ok (.aload_n 0, 1) := by decide +kernel
theorem dX7_laysSprings_337 : decode cX7_laysSprings 337 = .ok (.getfield 62, 3) := by decide +kernel
theorem dX7_laysSprings_340 : decode cX7_laysSprings 340 = .ok (.iload_n 1, 1) := by decide +kernel
theorem dX7_laysSprings_341 : decode cX7_laysSprings 341 = .ok (.iconst 1, 1) := by decide +kernel
theorem dX7_laysSprings_342 : decode cX7_laysSprings 342 = .ok (.iadd, 1) := by decide +kernel
theorem dX7_laysSprings_343 : decode cX7_laysSprings 343 = .ok (.iload_n 2, 1) := by decide +kernel
theorem dX7_laysSprings_344 : decode cX7_laysSprings 344 = .ok (.iastore, 1) := by decide +kernel
theorem dX7_laysSprings_345 : decode cX7_laysSprings 345 = .ok (.aload_n 0, 1) := by decide +kernel
theorem dX7_laysSprings_346 : decode cX7_laysSprings 346 = .ok (.getfield 74, 3) := by decide +kernel
theorem dX7_laysSprings_349 : decode cX7_laysSprings 349 = .ok (.iload_n 1, 1) := by decide +kernel
theorem dX7_laysSprings_350 : decode cX7_laysSprings 350 = .ok (.bipush 8, 2) := by decide +kernel
theorem dX7_laysSprings_352 : decode cX7_laysSprings 352 = .ok (.iastore, 1) := by decide +kernel
theorem dX7_laysSprings_353 : decode cX7_laysSprings 353 = .ok (.aload_n 0, 1) := by decide +kernel
theorem dX7_laysSprings_354 : decode cX7_laysSprings 354 = .ok (.getfield 77, 3) := by decide +kernel
theorem dX7_laysSprings_357 : decode cX7_laysSprings 357 = .ok (.iload_n 1, 1) := by decide +kernel
theorem dX7_laysSprings_358 : decode cX7_laysSprings 358 = .ok (.bipush 8, 2) := by decide +kernel
theorem dX7_laysSprings_360 : decode cX7_laysSprings 360 = .ok (.iastore, 1) := by decide +kernel
theorem dX7_laysSprings_361 : decode cX7_laysSprings 361 = .ok (.aload_n 0, 1) := by decide +kernel
theorem dX7_laysSprings_362 : decode cX7_laysSprings 362 = .ok (.getfield 62, 3) := by decide +kernel
theorem dX7_laysSprings_365 : decode cX7_laysSprings 365 = .ok (.iload_n 1, 1) := by decide +kernel
theorem dX7_laysSprings_366 : decode cX7_laysSprings 366 = .ok (.iaload, 1) := by decide +kernel
theorem dX7_laysSprings_367 : decode cX7_laysSprings 367 = .ok (.istore 6, 2) := by decide +kernel
theorem dX7_laysSprings_369 : decode cX7_laysSprings 369 = .ok (.iload 6, 2) := by decide +kernel
theorem dX7_laysSprings_371 : decode cX7_laysSprings 371 = .ok (.iload_n 2, 1) := by decide +kernel
theorem dX7_laysSprings_372 : decode cX7_laysSprings 372 = .ok (.if_icmp .ge 41, 3) := by decide +kernel
theorem dX7_laysSprings_375 : decode cX7_laysSprings 375 = .ok (.aload_n 0, 1) := by decide +kernel
theorem dX7_laysSprings_376 : decode cX7_laysSprings 376 = .ok (.getfield 74, 3) := by decide +kernel
theorem dX7_laysSprings_379 : decode cX7_laysSprings 379 = .ok (.iload_n 1, 1) := by decide +kernel
theorem dX7_laysSprings_380 : decode cX7_laysSprings 380 = .ok (.dup2, 1) := by decide +kernel
theorem dX7_laysSprings_381 : decode cX7_laysSprings 381 = .ok (.iaload, 1) := by decide +kernel
theorem dX7_laysSprings_382 : decode cX7_laysSprings 382 = .ok (.aload_n 0, 1) := by decide +kernel
theorem dX7_laysSprings_383 : decode cX7_laysSprings 383 = .ok (.getfield 68, 3) := by decide +kernel
theorem dX7_laysSprings_386 : decode cX7_laysSprings 386 = .ok (.iload 6, 2) := by decide +kernel
theorem dX7_laysSprings_388 : decode cX7_laysSprings 388 = .ok (.iaload, 1) := by decide +kernel
theorem dX7_laysSprings_389 : decode cX7_laysSprings 389 = .ok (.iadd, 1) := by decide +kernel
theorem dX7_laysSprings_390 : decode cX7_laysSprings 390 = .ok (.iastore, 1) := by decide +kernel
theorem dX7_laysSprings_391 : decode cX7_laysSprings 391 = .ok (.aload_n 0, 1) := by decide +kernel
theorem dX7_laysSprings_392 : decode cX7_laysSprings 392 = .ok (.getfield 77, 3) := by decide +kernel
theorem dX7_laysSprings_395 : decode cX7_laysSprings 395 = .ok (.iload_n 1, 1) := by decide +kernel
theorem dX7_laysSprings_396 : decode cX7_laysSprings 396 = .ok (.dup2, 1) := by decide +kernel
theorem dX7_laysSprings_397 : decode cX7_laysSprings 397 = .ok (.iaload, 1) := by decide +kernel
theorem dX7_laysSprings_398 : decode cX7_laysSprings 398 = .ok (.aload_n 0, 1) := by decide +kernel
theorem dX7_laysSprings_399 : decode cX7_laysSprings 399 = .ok (.getfield 71, 3) := by decide +kernel
theorem dX7_laysSprings_402 : decode cX7_laysSprings 402 = .ok (.iload 6, 2) := by decide +kernel
theorem dX7_laysSprings_404 : decode cX7_laysSprings 404 = .ok (.iaload, 1) := by decide +kernel
theorem dX7_laysSprings_405 : decode cX7_laysSprings 405 = .ok (.iadd, 1) := by decide +kernel
theorem dX7_laysSprings_406 : decode cX7_laysSprings 406 = .ok (.iastore, 1) := by decide +kernel
theorem dX7_laysSprings_407 : decode cX7_laysSprings 407 = .ok (.iinc 6 1, 3) := by decide +kernel
theorem dX7_laysSprings_410 : decode cX7_laysSprings 410 = .ok (.goto (-41), 3) := by decide +kernel
theorem dX7_laysSprings_413 : decode cX7_laysSprings 413 = .ok (.iinc 1 1, 3) := by decide +kernel
theorem dX7_laysSprings_416 : decode cX7_laysSprings 416 = .ok (.goto (-407), 3) := by decide +kernel
theorem dX7_laysSprings_419 : decode cX7_laysSprings 419 = .ok (.return_, 1) := by decide +kernel
theorem dX7_silentTo_0 : decode cX7_silentTo 0 = .ok (.iconst 0, 1) := by decide +kernel
theorem dX7_silentTo_1 : decode cX7_silentTo 1 = .ok (.istore_n 3, 1) := by decide +kernel
theorem dX7_silentTo_2 : decode cX7_silentTo 2 = .ok (.iload_n 2, 1) := by decide +kernel
theorem dX7_silentTo_3 : decode cX7_silentTo 3 = .ok (.istore 4, 2) := by decide +kernel
theorem dX7_silentTo_5 : decode cX7_silentTo 5 = .ok (.iload 4, 2) := by decide +kernel
theorem dX7_silentTo_7 : decode cX7_silentTo 7 = .ok (.ifCond .lt 94, 3) := by decide +kernel
theorem dX7_silentTo_10 : decode cX7_silentTo 10 = .ok (.iload_n 1, 1) := by decide +kernel
theorem dX7_silentTo_11 : decode cX7_silentTo 11 = .ok (.iload 4, 2) := by decide +kernel
theorem dX7_silentTo_13 : decode cX7_silentTo 13 = .ok (.invokestatic 116, 3) := by decide +kernel
theorem dX7_silentTo_16 : decode cX7_silentTo 16 = .ok (.istore 5, 2) := by decide +kernel
theorem dX7_silentTo_18 : decode cX7_silentTo 18 = .ok (.iconst 0, 1) := by decide +kernel
theorem dX7_silentTo_19 : decode cX7_silentTo 19 = .ok (.istore 6, 2) := by decide +kernel
theorem dX7_silentTo_21 : decode cX7_silentTo 21 = .ok (.iconst 0, 1) := by decide +kernel
theorem dX7_silentTo_22 : decode cX7_silentTo 22 = .ok (.istore 7, 2) := by decide +kernel
theorem dX7_silentTo_24 : decode cX7_silentTo 24 = .ok (.iload 7, 2) := by decide +kernel
theorem dX7_silentTo_26 : decode cX7_silentTo 26 = .ok (.aload_n 0, 1) := by decide +kernel
theorem dX7_silentTo_27 : decode cX7_silentTo 27 = .ok (.getfield 19, 3) := by decide +kernel
theorem dX7_silentTo_30 : decode cX7_silentTo 30 = .ok (.iload 5, 2) := by decide +kernel
theorem dX7_silentTo_32 : decode cX7_silentTo 32 = .ok (.iaload, 1) := by decide +kernel
theorem dX7_silentTo_33 : decode cX7_silentTo 33 = .ok (.if_icmp .ge 42, 3) := by decide +kernel
theorem dX7_silentTo_36 : decode cX7_silentTo 36 = .ok (.aload_n 0, 1) := by decide +kernel
theorem dX7_silentTo_37 : decode cX7_silentTo 37 = .ok (.getfield 16, 3) := by decide +kernel
theorem dX7_silentTo_40 : decode cX7_silentTo 40 = .ok (.bipush 8, 2) := by decide +kernel
theorem dX7_silentTo_42 : decode cX7_silentTo 42 = .ok (.iload 5, 2) := by decide +kernel
theorem dX7_silentTo_44 : decode cX7_silentTo 44 = .ok (.imul, 1) := by decide +kernel
theorem dX7_silentTo_45 : decode cX7_silentTo 45 = .ok (.iload 7, 2) := by decide +kernel
theorem dX7_silentTo_47 : decode cX7_silentTo 47 = .ok (.iadd, 1) := by decide +kernel
theorem dX7_silentTo_48 : decode cX7_silentTo 48 = .ok (.iaload, 1) := by decide +kernel
theorem dX7_silentTo_49 : decode cX7_silentTo 49 = .ok (.ifCond .le 16, 3) := by decide +kernel
theorem dX7_silentTo_52 : decode cX7_silentTo 52 = .ok (.aload_n 0, 1) := by decide +kernel
theorem dX7_silentTo_53 : decode cX7_silentTo 53 = .ok (.iload 5, 2) := by decide +kernel
theorem dX7_silentTo_55 : decode cX7_silentTo 55 = .ok (.iload 7, 2) := by decide +kernel
theorem dX7_silentTo_57 : decode cX7_silentTo 57 = .ok (.iconst 1, 1) := by decide +kernel
theorem dX7_silentTo_58 : decode cX7_silentTo 58 = .ok (.iadd, 1) := by decide +kernel
theorem dX7_silentTo_59 : decode cX7_silentTo 59 = .ok (.invokevirtual 120, 3) := by decide +kernel
theorem dX7_silentTo_62 : decode cX7_silentTo 62 = .ok (.goto 5, 3) := by decide +kernel
theorem dX7_silentTo_65 : decode cX7_silentTo 65 = .ok (.iload 6, 2) := by decide +kernel
theorem dX7_silentTo_67 : decode cX7_silentTo 67 = .ok (.istore 6, 2) := by decide +kernel
theorem dX7_silentTo_69 : decode cX7_silentTo 69 = .ok (.iinc 7 1, 3) := by decide +kernel
theorem dX7_silentTo_72 : decode cX7_silentTo 72 = .ok (.goto (-48), 3) := by decide +kernel
theorem dX7_silentTo_75 : decode cX7_silentTo 75 = .ok (.iload_n 3, 1) := by decide +kernel
theorem dX7_silentTo_76 : decode cX7_silentTo 76 = .ok (.aload_n 0, 1) := by decide +kernel
theorem dX7_silentTo_77 : decode cX7_silentTo 77 = .ok (.getfield 7, 3) := by decide +kernel
theorem dX7_silentTo_80 : decode cX7_silentTo 80 = .ok (.iload 4, 2) := by decide +kernel
theorem dX7_silentTo_82 : decode cX7_silentTo 82 = .ok (.iaload, 1) := by decide +kernel
theorem dX7_silentTo_83 : decode cX7_silentTo 83 = .ok (.iload 6, 2) := by decide +kernel
theorem dX7_silentTo_85 : decode cX7_silentTo 85 = .ok (.isub, 1) := by decide +kernel
theorem dX7_silentTo_86 : decode cX7_silentTo 86 = .ok (.iadd, 1) := by decide +kernel
theorem dX7_silentTo_87 : decode cX7_silentTo 87 = .ok (.istore_n 3, 1) := by decide +kernel
theorem dX7_silentTo_88 : decode cX7_silentTo 88 = .ok (.iload 6, 2) := by decide +kernel
theorem dX7_silentTo_90 : decode cX7_silentTo 90 = .ok (.ifCond .le 5, 3) := by decide +kernel
theorem dX7_silentTo_93 : decode cX7_silentTo 93 = .ok (.iload_n 3, 1) := by decide +kernel
theorem dX7_silentTo_94 : decode cX7_silentTo 94 = .ok (.ireturn, 1) := by decide +kernel
theorem dX7_silentTo_95 : decode cX7_silentTo 95 = .ok (.iinc 4 (-1), 3) := by decide +kernel
theorem dX7_silentTo_98 : decode cX7_silentTo 98 = .ok (.goto (-93), 3) := by decide +kernel
theorem dX7_silentTo_101 : decode cX7_silentTo 101 = .ok (.iload_n 3, 1) := by decide +kernel
theorem dX7_silentTo_102 : decode cX7_silentTo 102 = .ok (.ireturn, 1) := by decide +kernel
theorem dX7_silentFrom_0 : decode cX7_silentFrom 0 = .ok (.iconst 0, 1) := by decide +kernel
theorem dX7_silentFrom_1 : decode cX7_silentFrom 1 = .ok (.istore_n 3, 1) := by decide +kernel
theorem dX7_silentFrom_2 : decode cX7_silentFrom 2 = .ok (.iload_n 2, 1) := by decide +kernel
theorem dX7_silentFrom_3 : decode cX7_silentFrom 3 = .ok (.istore 4, 2) := by decide +kernel
theorem dX7_silentFrom_5 : decode cX7_silentFrom 5 = .ok (.iload 4, 2) := by decide +kernel
theorem dX7_silentFrom_7 : decode cX7_silentFrom 7 = .ok (.aload_n 0, 1) := by decide +kernel
theorem dX7_silentFrom_8 : decode cX7_silentFrom 8 = .ok (.getfield 99, 3) := by decide +kernel
theorem dX7_silentFrom_11 : decode cX7_silentFrom 11 = .ok (.if_icmp .ge 75, 3) := by decide +kernel
theorem dX7_silentFrom_14 : decode cX7_silentFrom 14 = .ok (.iload_n 1, 1) := by decide +kernel
theorem dX7_silentFrom_15 : decode cX7_silentFrom 15 = .ok (.iload 4, 2) := by decide +kernel
theorem dX7_silentFrom_17 : decode cX7_silentFrom 17 = .ok (.invokestatic 116, 3) := by decide +kernel
theorem dX7_silentFrom_20 : decode cX7_silentFrom 20 = .ok (.istore 5, 2) := by decide +kernel
theorem dX7_silentFrom_22 : decode cX7_silentFrom 22 = .ok (.iconst 0, 1) := by decide +kernel
theorem dX7_silentFrom_23 : decode cX7_silentFrom 23 = .ok (.istore 6, 2) := by decide +kernel
theorem dX7_silentFrom_25 : decode cX7_silentFrom 25 = .ok (.iload 6, 2) := by decide +kernel
theorem dX7_silentFrom_27 : decode cX7_silentFrom 27 = .ok (.aload_n 0, 1) := by decide +kernel
theorem dX7_silentFrom_28 : decode cX7_silentFrom 28 = .ok (.getfield 19, 3) := by decide +kernel
theorem dX7_silentFrom_31 : decode cX7_silentFrom 31 = .ok (.iload 5, 2) := by decide +kernel
theorem dX7_silentFrom_33 : decode cX7_silentFrom 33 = .ok (.iaload, 1) := by decide +kernel
theorem dX7_silentFrom_34 : decode cX7_silentFrom 34 = .ok (.if_icmp .ge 36, 3) := by decide +kernel
theorem dX7_silentFrom_37 : decode cX7_silentFrom 37 = .ok (.aload_n 0, 1) := by decide +kernel
theorem dX7_silentFrom_38 : decode cX7_silentFrom 38 = .ok (.getfield 16, 3) := by decide +kernel
theorem dX7_silentFrom_41 : decode cX7_silentFrom 41 = .ok (.bipush 8, 2) := by decide +kernel
theorem dX7_silentFrom_43 : decode cX7_silentFrom 43 = .ok (.iload 5, 2) := by decide +kernel
theorem dX7_silentFrom_45 : decode cX7_silentFrom 45 = .ok (.imul, 1) := by decide +kernel
theorem dX7_silentFrom_46 : decode cX7_silentFrom 46 = .ok (.iload 6, 2) := by decide +kernel
theorem dX7_silentFrom_48 : decode cX7_silentFrom 48 = .ok (.iadd, 1) := by decide +kernel
theorem dX7_silentFrom_49 : decode cX7_silentFrom 49 = .ok (.iaload, 1) := by decide +kernel
theorem dX7_silentFrom_50 : decode cX7_silentFrom 50 = .ok (.ifCond .le 14, 3) := by decide +kernel
theorem dX7_silentFrom_53 : decode cX7_silentFrom 53 = .ok (.iload_n 3, 1) := by decide +kernel
theorem dX7_silentFrom_54 : decode cX7_silentFrom 54 = .ok (.aload_n 0, 1) := by decide +kernel
theorem dX7_silentFrom_55 : decode cX7_silentFrom 55 = .ok (.iload 5, 2) := by decide +kernel
theorem dX7_silentFrom_57 : decode cX7_silentFrom 57 = .ok (.iload 6, 2) := by decide +kernel
theorem dX7_silentFrom_59 : decode cX7_silentFrom 59 = .ok (.invokevirtual 120, 3) := by decide +kernel
theorem dX7_silentFrom_62 : decode cX7_silentFrom 62 = .ok (.iadd, 1) := by decide +kernel
theorem dX7_silentFrom_63 : decode cX7_silentFrom 63 = .ok (.ireturn, 1) := by decide +kernel
theorem dX7_silentFrom_64 : decode cX7_silentFrom 64 = .ok (.iinc 6 1, 3) := by decide +kernel
theorem dX7_silentFrom_67 : decode cX7_silentFrom 67 = .ok (.goto (-42), 3) := by decide +kernel
theorem dX7_silentFrom_70 : decode cX7_silentFrom 70 = .ok (.iload_n 3, 1) := by decide +kernel
theorem dX7_silentFrom_71 : decode cX7_silentFrom 71 = .ok (.aload_n 0, 1) := by decide +kernel
theorem dX7_silentFrom_72 : decode cX7_silentFrom 72 = .ok (.getfield 7, 3) := by decide +kernel
theorem dX7_silentFrom_75 : decode cX7_silentFrom 75 = .ok (.iload 4, 2) := by decide +kernel
theorem dX7_silentFrom_77 : decode cX7_silentFrom 77 = .ok (.iaload, 1) := by decide +kernel
theorem dX7_silentFrom_78 : decode cX7_silentFrom 78 = .ok (.iadd, 1) := by decide +kernel
theorem dX7_silentFrom_79 : decode cX7_silentFrom 79 = .ok (.istore_n 3, 1) := by decide +kernel
theorem dX7_silentFrom_80 : decode cX7_silentFrom 80 = .ok (.iinc 4 1, 3) := by decide +kernel
theorem dX7_silentFrom_83 : decode cX7_silentFrom 83 = .ok (.goto (-78), 3) := by decide +kernel
theorem dX7_silentFrom_86 : decode cX7_silentFrom 86 = .ok (.iload_n 3, 1) := by decide +kernel
theorem dX7_silentFrom_87 : decode cX7_silentFrom 87 = .ok (.ireturn, 1) := by decide +kernel
theorem dX7_turnCost_0 : decode cX7_turnCost 0 = .ok (.iload_n 1, 1) := by decide +kernel
theorem dX7_turnCost_1 : decode cX7_turnCost 1 = .ok (.iconst 5, 1) := by decide +kernel
theorem dX7_turnCost_2 : decode cX7_turnCost 2 = .ok (.if_icmp .ne 7, 3) := by decide +kernel
theorem dX7_turnCost_5 : decode cX7_turnCost 5 = .ok (.iconst 0, 1) := by decide +kernel
theorem dX7_turnCost_6 : decode cX7_turnCost 6 = .ok (.goto 21, 3) := by decide +kernel
theorem dX7_turnCost_9 : decode cX7_turnCost 9 = .ok (.bipush 16, 2) := by decide +kernel
theorem dX7_turnCost_11 : decode cX7_turnCost 11 = .ok (.aload_n 0, 1) := by decide +kernel
theorem dX7_turnCost_12 : decode cX7_turnCost 12 = .ok (.iload_n 1, 1) := by decide +kernel
theorem dX7_turnCost_13 : decode cX7_turnCost 13 = .ok (.iload_n 2, 1) := by decide +kernel
theorem dX7_turnCost_14 : decode cX7_turnCost 14 = .ok (.invokevirtual 177, 3) := by decide +kernel
theorem dX7_turnCost_17 : decode cX7_turnCost 17 = .ok (.isub, 1) := by decide +kernel
theorem dX7_turnCost_18 : decode cX7_turnCost 18 = .ok (.aload_n 0, 1) := by decide +kernel
theorem dX7_turnCost_19 : decode cX7_turnCost 19 = .ok (.iload_n 1, 1) := by decide +kernel
theorem dX7_turnCost_20 : decode cX7_turnCost 20 = .ok (.iload_n 2, 1) := by decide +kernel
theorem dX7_turnCost_21 : decode cX7_turnCost 21 = .ok (.iconst 1, 1) := by decide +kernel
theorem dX7_turnCost_22 : decode cX7_turnCost 22 = .ok (.iadd, 1) := by decide +kernel
theorem dX7_turnCost_23 : decode cX7_turnCost 23 = .ok (.invokevirtual 180, 3) := by decide +kernel
theorem dX7_turnCost_26 : decode cX7_turnCost 26 = .ok (.isub, 1) := by decide +kernel
theorem dX7_turnCost_27 : decode cX7_turnCost 27 = .ok (.istore_n 3, 1) := by decide +kernel
theorem dX7_turnCost_28 : decode cX7_turnCost 28 = .ok (.iload_n 3, 1) := by decide +kernel
theorem dX7_turnCost_29 : decode cX7_turnCost 29 = .ok (.ifCond .le 10, 3) := by decide +kernel
theorem dX7_turnCost_32 : decode cX7_turnCost 32 = .ok (.bipush 100, 2) := by decide +kernel
theorem dX7_turnCost_34 : decode cX7_turnCost 34 = .ok (.iload_n 3, 1) := by decide +kernel
theorem dX7_turnCost_35 : decode cX7_turnCost 35 = .ok (.imul, 1) := by decide +kernel
theorem dX7_turnCost_36 : decode cX7_turnCost 36 = .ok (.goto 4, 3) := by decide +kernel
theorem dX7_turnCost_39 : decode cX7_turnCost 39 = .ok (.iconst 0, 1) := by decide +kernel
theorem dX7_turnCost_40 : decode cX7_turnCost 40 = .ok (.ireturn, 1) := by decide +kernel
theorem dX7_badness_0 : decode cX7_badness 0 = .ok (.aload_n 0, 1) := by decide +kernel
theorem dX7_badness_1 : decode cX7_badness 1 = .ok (.getfield 25, 3) := by decide +kernel
theorem dX7_badness_4 : decode cX7_badness 4 = .ok (.iload_n 1, 1) := by decide +kernel
theorem dX7_badness_5 : decode cX7_badness 5 = .ok (.isub, 1) := by decide +kernel
theorem dX7_badness_6 : decode cX7_badness 6 = .ok (.istore_n 3, 1) := by decide +kernel
theorem dX7_badness_7 : decode cX7_badness 7 = .ok (.iload_n 3, 1) := by decide +kernel
theorem dX7_badness_8 : decode cX7_badness 8 = .ok (.ifCond .ge 9, 3) := by decide +kernel
theorem dX7_badness_11 : decode cX7_badness 11 = .ok (.iconst 2, 1) := by decide +kernel
theorem dX7_badness_12 : decode cX7_badness 12 = .ok (.iload_n 3, 1) := by decide +kernel
theorem dX7_badness_13 : decode cX7_badness 13 = .ok (.imul, 1) := by decide +kernel
theorem dX7_badness_14 : decode cX7_badness 14 = .ok (.goto 4, 3) := by decide +kernel
theorem dX7_badness_17 : decode cX7_badness 17 = .ok (.iload_n 3, 1) := by decide +kernel
theorem dX7_badness_18 : decode cX7_badness 18 = .ok (.istore 4, 2) := by decide +kernel
theorem dX7_badness_20 : decode cX7_badness 20 = .ok (.iload_n 2, 1) := by decide +kernel
theorem dX7_badness_21 : decode cX7_badness 21 = .ok (.ifCond .eq 11, 3) := by decide +kernel
theorem dX7_badness_24 : decode cX7_badness 24 = .ok (.iload_n 3, 1) := by decide +kernel
theorem dX7_badness_25 : decode cX7_badness 25 = .ok (.ifCond .le 7, 3) := by decide +kernel
theorem dX7_badness_28 : decode cX7_badness 28 = .ok (.iconst 0, 1) := by decide +kernel
theorem dX7_badness_29 : decode cX7_badness 29 = .ok (.goto 8, 3) := by decide +kernel
theorem dX7_badness_32 : decode cX7_badness 32 = .ok (.iload 4, 2) := by decide +kernel
theorem dX7_badness_34 : decode cX7_badness 34 = .ok (.iload 4, 2) := by decide +kernel
theorem dX7_badness_36 : decode cX7_badness 36 = .ok (.imul, 1) := by decide +kernel
theorem dX7_badness_37 : decode cX7_badness 37 = .ok (.ireturn, 1) := by decide +kernel
theorem dX7_breaks_0 : decode cX7_breaks 0 = .ok (.iconst 0, 1) := by decide +kernel
theorem dX7_breaks_1 : decode cX7_breaks 1 = .ok (.istore_n 2, 1) := by decide +kernel
theorem dX7_breaks_2 : decode cX7_breaks 2 = .ok (.iload_n 2, 1) := by decide +kernel
theorem dX7_breaks_3 : decode cX7_breaks 3 = .ok (.aload_n 0, 1) := by decide +kernel
theorem dX7_breaks_4 : decode cX7_breaks 4 = .ok (.getfield 29, 3) := by decide +kernel
theorem dX7_breaks_7 : decode cX7_breaks 7 = .ok (.if_icmp .ge 39, 3) := by decide +kernel
theorem dX7_breaks_10 : decode cX7_breaks 10 = .ok (.aload_n 0, 1) := by decide +kernel
theorem dX7_breaks_11 : decode cX7_breaks 11 = .ok (.getfield 80, 3) := by decide +kernel
theorem dX7_breaks_14 : decode cX7_breaks 14 = .ok (.bipush 6, 2) := by decide +kernel
theorem dX7_breaks_16 : decode cX7_breaks 16 = .ok (.aload_n 0, 1) := by decide +kernel
theorem dX7_breaks_17 : decode cX7_breaks 17 = .ok (.getfield 161, 3) := by decide +kernel
theorem dX7_breaks_20 : decode cX7_breaks 20 = .ok (.imul, 1) := by decide +kernel
theorem dX7_breaks_21 : decode cX7_breaks 21 = .ok (.iload_n 2, 1) := by decide +kernel
theorem dX7_breaks_22 : decode cX7_breaks 22 = .ok (.iadd, 1) := by decide +kernel
theorem dX7_breaks_23 : decode cX7_breaks 23 = .ok (.iconst 0, 1) := by decide +kernel
theorem dX7_breaks_24 : decode cX7_breaks 24 = .ok (.iastore, 1) := by decide +kernel
theorem dX7_breaks_25 : decode cX7_breaks 25 = .ok (.aload_n 0, 1) := by decide +kernel
theorem dX7_breaks_26 : decode cX7_breaks 26 = .ok (.getfield 83, 3) := by decide +kernel
theorem dX7_breaks_29 : decode cX7_breaks 29 = .ok (.bipush 6, 2) := by decide +kernel
theorem dX7_breaks_31 : decode cX7_breaks 31 = .ok (.aload_n 0, 1) := by decide +kernel
theorem dX7_breaks_32 : decode cX7_breaks 32 = .ok (.getfield 161, 3) := by decide +kernel
theorem dX7_breaks_35 : decode cX7_breaks 35 = .ok (.imul, 1) := by decide +kernel
theorem dX7_breaks_36 : decode cX7_breaks 36 = .ok (.iload_n 2, 1) := by decide +kernel
theorem dX7_breaks_37 : decode cX7_breaks 37 = .ok (.iadd, 1) := by decide +kernel
theorem dX7_breaks_38 : decode cX7_breaks 38 = .ok (.iconst 0, 1) := by decide +kernel
theorem dX7_breaks_39 : decode cX7_breaks 39 = .ok (.iastore, 1) := by decide +kernel
theorem dX7_breaks_40 : decode cX7_breaks 40 = .ok (.iinc 2 1, 3) := by decide +kernel
theorem dX7_breaks_43 : decode cX7_breaks 43 = .ok (.goto (-41), 3) := by decide +kernel
theorem dX7_breaks_46 : decode cX7_breaks 46 = .ok (.aload_n 0, 1) := by decide +kernel
theorem dX7_breaks_47 : decode cX7_breaks 47 = .ok (.getfield 161, 3) := by decide +kernel
theorem dX7_breaks_50 : decode cX7_breaks 50 = .ok (.iconst 1, 1) := by decide +kernel
theorem dX7_breaks_51 : decode cX7_breaks 51 = .ok (.isub, 1) := by decide +kernel
theorem dX7_breaks_52 : decode cX7_breaks 52 = .ok (.istore_n 2, 1) := by decide +kernel
theorem dX7_breaks_53 : decode cX7_breaks 53 = .ok (.iload_n 2, 1) := by decide +kernel
theorem dX7_breaks_54 : decode cX7_breaks 54 = .ok (.ifCond .lt 307, 3) := by decide +kernel
theorem dX7_breaks_57 : decode cX7_breaks 57 = .ok (.iconst 0, 1) := by decide +kernel
theorem dX7_breaks_58 : decode cX7_breaks 58 = .ok (.istore_n 3, 1) := by decide +kernel
theorem dX7_breaks_59 : decode cX7_breaks 59 = .ok (.iload_n 3, 1) := by decide +kernel
theorem dX7_breaks_60 : decode cX7_breaks 60 = .ok (.aload_n 0, 1) := by decide +kernel
theorem dX7_breaks_61 : decode cX7_breaks 61 = .ok (.getfield 29, 3) := by decide +kernel
theorem dX7_breaks_64 : decode cX7_breaks 64 = .ok (.if_icmp .ge 291, 3) := by decide +kernel
theorem dX7_breaks_67 : decode cX7_breaks 67 = .ok (.bipush 6, 2) := by decide +kernel
theorem dX7_breaks_69 : decode cX7_breaks 69 = .ok (.iload_n 2, 1) := by decide +kernel
theorem dX7_breaks_70 : decode cX7_breaks 70 = .ok (.imul, 1) := by decide +kernel
theorem dX7_breaks_71 : decode cX7_breaks 71 = .ok (.iload_n 3, 1) := by decide +kernel
theorem dX7_breaks_72 : decode cX7_breaks 72 = .ok (.iadd, 1) := by decide +kernel
theorem dX7_breaks_73 : decode cX7_breaks 73 = .ok (.istore 4, 2) := by decide +kernel
theorem dX7_breaks_75 : decode cX7_breaks 75 = .ok (.iconst 0, 1) := by decide +kernel
theorem dX7_breaks_76 : decode cX7_breaks 76 = .ok (.istore 5, 2) := by decide +kernel
theorem dX7_breaks_78 : decode cX7_breaks 78 = .ok (.iconst 0, 1) := by decide +kernel
theorem dX7_breaks_79 : decode cX7_breaks 79 = .ok (.istore 6, 2) := by decide +kernel
theorem dX7_breaks_81 : decode cX7_breaks 81 = .ok (.aload_n 0, 1) := by decide +kernel
theorem dX7_breaks_82 : decode cX7_breaks 82 = .ok (.getfield 86, 3) := by decide +kernel
theorem dX7_breaks_85 : decode cX7_breaks 85 = .ok (.iload 4, 2) := by decide +kernel
theorem dX7_breaks_87 : decode cX7_breaks 87 = .ok (.iconst 0, 1) := by decide +kernel
theorem dX7_breaks_88 : decode cX7_breaks 88 = .ok (.iastore, 1) := by decide +kernel
theorem dX7_breaks_89 : decode cX7_breaks 89 = .ok (.iconst 1, 1) := by decide +kernel
theorem dX7_breaks_90 : decode cX7_breaks 90 = .ok (.istore 7, 2) := by decide +kernel
theorem dX7_breaks_92 : decode cX7_breaks 92 = .ok (.iload_n 2, 1) := by decide +kernel
theorem dX7_breaks_93 : decode cX7_breaks 93 = .ok (.iload 7, 2) := by decide +kernel
theorem dX7_breaks_95 : decode cX7_breaks 95 = .ok (.iadd, 1) := by decide +kernel
theorem dX7_breaks_96 : decode cX7_breaks 96 = .ok (.aload_n 0, 1) := by decide +kernel
theorem dX7_breaks_97 : decode cX7_breaks 97 = .ok (.getfield 161, 3) := by decide +kernel
theorem dX7_breaks_100 : decode cX7_breaks 100 = .ok (.if_icmp .gt 249, 3) := by decide +kernel
theorem dX7_breaks_103 : decode cX7_breaks 103 = .ok (.iload 5, 2) := by decide +kernel
theorem dX7_breaks_105 : decode cX7_breaks 105 = .ok (.aload_n 0, 1) := by decide +kernel
theorem dX7_breaks_106 : decode cX7_breaks 106 = .ok (.getfield 74, 3) := by decide +kernel
theorem dX7_breaks_109 : decode cX7_breaks 109 = .ok (.iload_n 2, 1) := by decide +kernel
theorem dX7_breaks_110 : decode cX7_breaks 110 = .ok (.iload 7, 2) := by decide +kernel
theorem dX7_breaks_112 : decode cX7_breaks 112 = .ok (.iadd, 1) := by decide +kernel
theorem dX7_breaks_113 : decode cX7_breaks 113 = .ok (.iconst 1, 1) := by decide +kernel
theorem dX7_breaks_114 : decode cX7_breaks 114 = .ok (.isub, 1) := by decide +kernel
theorem dX7_breaks_115 : decode cX7_breaks 115 = .ok (.iaload, 1) := by decide +kernel
theorem dX7_breaks_116 : decode cX7_breaks 116 = .ok (.iadd, 1) := by decide +kernel
theorem dX7_breaks_117 : decode cX7_breaks 117 = .ok (.istore 5, 2) := by decide +kernel
theorem dX7_breaks_119 : decode cX7_breaks 119 = .ok (.iload 6, 2) := by decide +kernel
theorem dX7_breaks_121 : decode cX7_breaks 121 = .ok (.aload_n 0, 1) := by decide +kernel
theorem dX7_breaks_122 : decode cX7_breaks 122 = .ok (.getfield 77, 3) := by decide +kernel
theorem dX7_breaks_125 : decode cX7_breaks 125 = .ok (.iload_n 2, 1) := by decide +kernel
theorem dX7_breaks_126 : decode cX7_breaks 126 = .ok (.iload 7, 2) := by decide +kernel
theorem dX7_breaks_128 : decode cX7_breaks 128 = .ok (.iadd, 1) := by decide +kernel
theorem dX7_breaks_129 : decode cX7_breaks 129 = .ok (.iconst 1, 1) := by decide +kernel
theorem dX7_breaks_130 : decode cX7_breaks 130 = .ok (.isub, 1) := by decide +kernel
theorem dX7_breaks_131 : decode cX7_breaks 131 = .ok (.iaload, 1) := by decide +kernel
theorem dX7_breaks_132 : decode cX7_breaks 132 = .ok (.iadd, 1) := by decide +kernel
theorem dX7_breaks_133 : decode cX7_breaks 133 = .ok (.istore 6, 2) := by decide +kernel
theorem dX7_breaks_135 : decode cX7_breaks 135 = .ok (.iload_n 2, 1) := by decide +kernel
theorem dX7_breaks_136 : decode cX7_breaks 136 = .ok (.iload 7, 2) := by decide +kernel
theorem dX7_breaks_138 : decode cX7_breaks 138 = .ok (.iadd, 1) := by decide +kernel
theorem dX7_breaks_139 : decode cX7_breaks 139 = .ok (.aload_n 0, 1) := by decide +kernel
theorem dX7_breaks_140 : decode cX7_breaks 140 = .ok (.getfield 161, 3) := by decide +kernel
theorem dX7_breaks_143 : decode cX7_breaks 143 = .ok (.if_icmp .ne 7, 3) := by decide +kernel
theorem dX7_breaks_146 : decode cX7_breaks 146 = .ok (.iconst 1, 1) := by decide +kernel
theorem dX7_breaks_147 : decode cX7_breaks 147 = .ok (.goto 4, 3) := by decide +kernel
theorem dX7_breaks_150 : decode cX7_breaks 150 = .ok (.iconst 0, 1) := by decide +kernel
theorem dX7_breaks_151 : decode cX7_breaks 151 = .ok (.istore 8, 2) := by decide +kernel
theorem dX7_breaks_153 : decode cX7_breaks 153 = .ok (.bipush 6, 2) := by decide +kernel
theorem dX7_breaks_155 : decode cX7_breaks 155 = .ok (.iload_n 2, 1) := by decide +kernel
theorem dX7_breaks_156 : decode cX7_breaks 156 = .ok (.iload 7, 2) := by decide +kernel
theorem dX7_breaks_158 : decode cX7_breaks 158 = .ok (.iadd, 1) := by decide +kernel
theorem dX7_breaks_159 : decode cX7_breaks 159 = .ok (.imul, 1) := by decide +kernel
theorem dX7_breaks_160 : decode cX7_breaks 160 = .ok (.iload_n 3, 1) := by decide +kernel
theorem dX7_breaks_161 : decode cX7_breaks 161 = .ok (.iconst 1, 1) := by decide +kernel
theorem dX7_breaks_162 : decode cX7_breaks 162 = .ok (.iadd, 1) := by decide +kernel
theorem dX7_breaks_163 : decode cX7_breaks 163 = .ok (.aload_n 0, 1) := by decide +kernel
theorem dX7_breaks_164 : decode cX7_breaks 164 = .ok (.getfield 29, 3) := by decide +kernel
theorem dX7_breaks_167 : decode cX7_breaks 167 = .ok (.irem, 1) := by decide +kernel
theorem dX7_breaks_168 : decode cX7_breaks 168 = .ok (.iadd, 1) := by decide +kernel
theorem dX7_breaks_169 : decode cX7_breaks 169 = .ok (.istore 9, 2) := by decide +kernel
theorem dX7_breaks_171 : decode cX7_breaks 171 = .ok (.aload_n 0, 1) := by decide +kernel
theorem dX7_breaks_172 : decode cX7_breaks 172 = .ok (.iload 5, 2) := by decide +kernel
theorem dX7_breaks_174 : decode cX7_breaks 174 = .ok (.iload 8, 2) := by decide +kernel
theorem dX7_breaks_176 : decode cX7_breaks 176 = .ok (.invokevirtual 183, 3) := by decide +kernel
theorem dX7_breaks_179 : decode cX7_breaks 179 = .ok (.aload_n 0, 1) := by decide +kernel
theorem dX7_breaks_180 : decode cX7_breaks 180 = .ok (.getfield 80, 3) := by decide +kernel
theorem dX7_breaks_183 : decode cX7_breaks 183 = .ok (.iload 9, 2) := by decide +kernel
theorem dX7_breaks_185 : decode cX7_breaks 185 = .ok (.iaload, 1) := by decide +kernel
theorem dX7_breaks_186 : decode cX7_breaks 186 = .ok (.iadd, 1) := by decide +kernel
theorem dX7_breaks_187 : decode cX7_breaks 187 = .ok (.istore 10, 2) := by decide +kernel
theorem dX7_breaks_189 : decode cX7_breaks 189 = .ok (.iload 10, 2) := by decide +kernel
theorem dX7_breaks_191 : decode cX7_breaks 191 = .ok (.iload_n 3, 1) := by decide +kernel
theorem dX7_breaks_192 : decode cX7_breaks 192 = .ok (.aload_n 0, 1) := by decide +kernel
theorem dX7_breaks_193 : decode cX7_breaks 193 = .ok (.getfield 29, 3) := by decide +kernel
theorem dX7_breaks_196 : decode cX7_breaks 196 = .ok (.iconst 1, 1) := by decide +kernel
theorem dX7_breaks_197 : decode cX7_breaks 197 = .ok (.isub, 1) := by decide +kernel
theorem dX7_breaks_198 : decode cX7_breaks 198 = .ok (.if_icmp .ne 27, 3) := by decide +kernel
theorem dX7_breaks_201 : decode cX7_breaks 201 = .ok (.iload 8, 2) := by decide +kernel
theorem dX7_breaks_203 : decode cX7_breaks 203 = .ok (.ifCond .ne 22, 3) := by decide +kernel
theorem dX7_breaks_206 : decode cX7_breaks 206 = .ok (.aload_n 0, 1) := by decide +kernel
theorem dX7_breaks_207 : decode cX7_breaks 207 = .ok (.iload_n 1, 1) := by decide +kernel
theorem dX7_breaks_208 : decode cX7_breaks 208 = .ok (.aload_n 0, 1) := by decide +kernel
theorem dX7_breaks_209 : decode cX7_breaks 209 = .ok (.getfield 56, 3) := by decide +kernel
theorem dX7_breaks_212 : decode cX7_breaks 212 = .ok (.iload_n 2, 1) := by decide +kernel
theorem dX7_breaks_213 : decode cX7_breaks 213 = .ok (.iload 7, 2) := by decide +kernel
theorem dX7_breaks_215 : decode cX7_breaks 215 = .ok (.iadd, 1) := by decide +kernel
theorem dX7_breaks_216 : decode cX7_breaks 216 = .ok (.iconst 1, 1) := by decide +kernel
theorem dX7_breaks_217 : decode cX7_breaks 217 = .ok (.isub, 1) := by decide +kernel
theorem dX7_breaks_218 : decode cX7_breaks 218 = .ok (.iaload, 1) := by decide +kernel
theorem dX7_breaks_219 : decode cX7_breaks 219 = .ok (.invokevirtual 187, 3) := by decide +kernel
theorem dX7_breaks_222 : decode cX7_breaks 222 = .ok (.goto 4, 3) := by decide +kernel
theorem dX7_breaks_225 : decode cX7_breaks 225 = .ok (.iconst 0, 1) := by decide +kernel
theorem dX7_breaks_226 : decode cX7_breaks 226 = .ok (.iadd, 1) := by decide +kernel
theorem dX7_breaks_227 : decode cX7_breaks 227 = .ok (.istore 10, 2) := by decide +kernel
theorem dX7_breaks_229 : decode cX7_breaks 229 = .ok (.aload_n 0, 1) := by decide +kernel
theorem dX7_breaks_230 : decode cX7_breaks 230 = .ok (.getfield 86, 3) := by decide +kernel
theorem dX7_breaks_233 : decode cX7_breaks 233 = .ok (.iload 4, 2) := by decide +kernel
theorem dX7_breaks_235 : decode cX7_breaks 235 = .ok (.iaload, 1) := by decide +kernel
theorem dX7_breaks_236 : decode cX7_breaks 236 = .ok (.ifCond .eq 46, 3) := by decide +kernel
theorem dX7_breaks_239 : decode cX7_breaks 239 = .ok (.iload 10, 2) := by decide +kernel
theorem dX7_breaks_241 : decode cX7_breaks 241 = .ok (.aload_n 0, 1) := by decide +kernel
theorem dX7_breaks_242 : decode cX7_breaks 242 = .ok (.getfield 80, 3) := by decide +kernel
theorem dX7_breaks_245 : decode cX7_breaks 245 = .ok (.iload 4, 2) := by decide +kernel
theorem dX7_breaks_247 : decode cX7_breaks 247 = .ok (.iaload, 1) := by decide +kernel
theorem dX7_breaks_248 : decode cX7_breaks 248 = .ok (.if_icmp .lt 34, 3) := by decide +kernel
theorem dX7_breaks_251 : decode cX7_breaks 251 = .ok (.iload 10, 2) := by decide +kernel
theorem dX7_breaks_253 : decode cX7_breaks 253 = .ok (.aload_n 0, 1) := by decide +kernel
theorem dX7_breaks_254 : decode cX7_breaks 254 = .ok (.getfield 80, 3) := by decide +kernel
theorem dX7_breaks_257 : decode cX7_breaks 257 = .ok (.iload 4, 2) := by decide +kernel
theorem dX7_breaks_259 : decode cX7_breaks 259 = .ok (.iaload, 1) := by decide +kernel
theorem dX7_breaks_260 : decode cX7_breaks 260 = .ok (.if_icmp .ne 26, 3) := by decide +kernel
theorem dX7_breaks_263 : decode cX7_breaks 263 = .ok (.aload_n 0, 1) := by decide +kernel
theorem dX7_breaks_264 : decode cX7_breaks 264 = .ok (.getfield 83, 3) := by decide +kernel
theorem dX7_breaks_267 : decode cX7_breaks 267 = .ok (.iload 9, 2) := by decide +kernel
theorem dX7_breaks_269 : decode cX7_breaks 269 = .ok (.iaload, 1) := by decide +kernel
theorem dX7_breaks_270 : decode cX7_breaks 270 = .ok (.iconst 1, 1) := by decide +kernel
theorem dX7_breaks_271 : decode cX7_breaks 271 = .ok (.iadd, 1) := by decide +kernel
theorem dX7_breaks_272 : decode cX7_breaks 272 = .ok (.aload_n 0, 1) := by decide +kernel
theorem dX7_breaks_273 : decode cX7_breaks 273 = .ok (.getfield 83, 3) := by decide +kernel
theorem dX7_breaks_276 : decode cX7_breaks 276 = .ok (.iload 4, 2) := by decide +kernel
theorem dX7_breaks_278 : decode cX7_breaks 278 = .ok (.iaload, 1) := by decide +kernel
theorem dX7_breaks_279 : decode cX7_breaks 279 = .ok (.if_icmp .ge 7, 3) := by decide +kernel
theorem dX7_breaks_282 : decode cX7_breaks 282 = .ok (.iconst 1, 1) := by decide +kernel
theorem dX7_breaks_283 : decode cX7_breaks 283 = .ok (.goto 4, 3) := by decide +kernel
theorem dX7_breaks_286 : decode cX7_breaks 286 = .ok (.iconst 0, 1) := by decide +kernel
theorem dX7_breaks_287 : decode cX7_breaks 287 = .ok (.istore 11, 2) := by decide +kernel
theorem dX7_breaks_289 : decode cX7_breaks 289 = .ok (.iload 7, 2) := by decide +kernel
theorem dX7_breaks_291 : decode cX7_breaks 291 = .ok (.iconst 1, 1) := by decide +kernel
theorem dX7_breaks_292 : decode cX7_breaks 292 = .ok (.if_icmp .eq 12, 3) := by decide +kernel
theorem dX7_breaks_295 : decode cX7_breaks 295 = .ok (.iload 6, 2) := by decide +kernel
theorem dX7_breaks_297 : decode cX7_breaks 297 = .ok (.aload_n 0, 1) := by decide +kernel
theorem dX7_breaks_298 : decode cX7_breaks 298 = .ok (.getfield 25, 3) := by decide +kernel
theorem dX7_breaks_301 : decode cX7_breaks 301 = .ok (.if_icmp .gt 42, 3) := by decide +kernel
theorem dX7_breaks_304 : decode cX7_breaks 304 = .ok (.iload 11, 2) := by decide +kernel
theorem dX7_breaks_306 : decode cX7_breaks 306 = .ok (.ifCond .eq 37, 3) := by decide +kernel
theorem dX7_breaks_309 : decode cX7_breaks 309 = .ok (.aload_n 0, 1) := by decide +kernel
theorem dX7_breaks_310 : decode cX7_breaks 310 = .ok (.getfield 86, 3) := by decide +kernel
theorem dX7_breaks_313 : decode cX7_breaks 313 = .ok (.iload 4, 2) := by decide +kernel
theorem dX7_breaks_315 : decode cX7_breaks 315 = .ok (.iload 7, 2) := by decide +kernel
theorem dX7_breaks_317 : decode cX7_breaks 317 = .ok (.iastore, 1) := by decide +kernel
theorem dX7_breaks_318 : decode cX7_breaks 318 = .ok (.aload_n 0, 1) := by decide +kernel
theorem dX7_breaks_319 : decode cX7_breaks 319 = .ok (.getfield 80, 3) := by decide +kernel
theorem dX7_breaks_322 : decode cX7_breaks 322 = .ok (.iload 4, 2) := by decide +kernel
theorem dX7_breaks_324 : decode cX7_breaks 324 = .ok (.iload 10, 2) := by decide +kernel
theorem dX7_breaks_326 : decode cX7_breaks 326 = .ok (.iastore, 1) := by decide +kernel
theorem dX7_breaks_327 : decode cX7_breaks 327 = .ok (.aload_n 0, 1) := by decide +kernel
theorem dX7_breaks_328 : decode cX7_breaks 328 = .ok (.getfield 83, 3) := by decide +kernel
theorem dX7_breaks_331 : decode cX7_breaks 331 = .ok (.iload 4, 2) := by decide +kernel
theorem dX7_breaks_333 : decode cX7_breaks 333 = .ok (.aload_n 0, 1) := by decide +kernel
theorem dX7_breaks_334 : decode cX7_breaks 334 = .ok (.getfield 83, 3) := by decide +kernel
theorem dX7_breaks_337 : decode cX7_breaks 337 = .ok (.iload 9, 2) := by decide +kernel
theorem dX7_breaks_339 : decode cX7_breaks 339 = .ok (.iaload, 1) := by decide +kernel
theorem dX7_breaks_340 : decode cX7_breaks 340 = .ok (.iconst 1, 1) := by decide +kernel
theorem dX7_breaks_341 : decode cX7_breaks 341 = .ok (.iadd, 1) := by decide +kernel
theorem dX7_breaks_342 : decode cX7_breaks 342 = .ok (.iastore, 1) := by decide +kernel
theorem dX7_breaks_343 : decode cX7_breaks 343 = .ok (.iinc 7 1, 3) := by decide +kernel
theorem dX7_breaks_346 : decode cX7_breaks 346 = .ok (.goto (-254), 3) := by decide +kernel
theorem dX7_breaks_349 : decode cX7_breaks 349 = .ok (.iinc 3 1, 3) := by decide +kernel
theorem dX7_breaks_352 : decode cX7_breaks 352 = .ok (.goto (-293), 3) := by decide +kernel
theorem dX7_breaks_355 : decode cX7_breaks 355 = .ok (.iinc 2 (-1), 3) := by decide +kernel
theorem dX7_breaks_358 : decode cX7_breaks 358 = .ok (.goto (-305), 3) := by decide +kernel
theorem dX7_breaks_361 : decode cX7_breaks 361 = .ok (.aload_n 0, 1) := by decide +kernel
theorem dX7_breaks_362 : decode cX7_breaks 362 = .ok (.iconst 0, 1) := by decide +kernel
theorem dX7_breaks_363 : decode cX7_breaks 363 = .ok (.putfield 190, 3) := by decide +kernel
theorem dX7_breaks_366 : decode cX7_breaks 366 = .ok (.aload_n 0, 1) := by decide +kernel
theorem dX7_breaks_367 : decode cX7_breaks 367 = .ok (.iconst 0, 1) := by decide +kernel
theorem dX7_breaks_368 : decode cX7_breaks 368 = .ok (.putfield 193, 3) := by decide +kernel
theorem dX7_breaks_371 : decode cX7_breaks 371 = .ok (.iconst 0, 1) := by decide +kernel
theorem dX7_breaks_372 : decode cX7_breaks 372 = .ok (.istore_n 2, 1) := by decide +kernel
theorem dX7_breaks_373 : decode cX7_breaks 373 = .ok (.iload_n 2, 1) := by decide +kernel
theorem dX7_breaks_374 : decode cX7_breaks 374 = .ok (.aload_n 0, 1) := by decide +kernel
theorem dX7_breaks_375 : decode cX7_breaks 375 = .ok (.getfield 161, 3) := by decide +kernel
theorem dX7_breaks_378 : decode cX7_breaks 378 = .ok (.if_icmp .ge 117, 3) := by decide +kernel
theorem dX7_breaks_381 : decode cX7_breaks 381 = .ok (.aload_n 0, 1) := by decide +kernel
theorem dX7_breaks_382 : decode cX7_breaks 382 = .ok (.getfield 190, 3) := by decide +kernel
theorem dX7_breaks_385 : decode cX7_breaks 385 = .ok (.aload_n 0, 1) := by decide +kernel
theorem dX7_breaks_386 : decode cX7_breaks 386 = .ok (.getfield 29, 3) := by decide +kernel
theorem dX7_breaks_389 : decode cX7_breaks 389 = .ok (.irem, 1) := by decide +kernel
theorem dX7_breaks_390 : decode cX7_breaks 390 = .ok (.istore_n 3, 1) := by decide +kernel
theorem dX7_breaks_391 : decode cX7_breaks 391 = .ok (.aload_n 0, 1) := by decide +kernel
theorem dX7_breaks_392 : decode cX7_breaks 392 = .ok (.getfield 86, 3) := by decide +kernel
theorem dX7_breaks_395 : decode cX7_breaks 395 = .ok (.bipush 6, 2) := by decide +kernel
theorem dX7_breaks_397 : decode cX7_breaks 397 = .ok (.iload_n 2, 1) := by decide +kernel
theorem dX7_breaks_398 : decode cX7_breaks 398 = .ok (.imul, 1) := by decide +kernel
theorem dX7_breaks_399 : decode cX7_breaks 399 = .ok (.iload_n 3, 1) := by decide +kernel
theorem dX7_breaks_400 : decode cX7_breaks 400 = .ok (.iadd, 1) := by decide +kernel
theorem dX7_breaks_401 : decode cX7_breaks 401 = .ok (.iaload, 1) := by decide +kernel
theorem dX7_breaks_402 : decode cX7_breaks 402 = .ok (.istore 4, 2) := by decide +kernel
theorem dX7_breaks_404 : decode cX7_breaks 404 = .ok (.iload_n 2, 1) := by decide +kernel
theorem dX7_breaks_405 : decode cX7_breaks 405 = .ok (.istore 5, 2) := by decide +kernel
theorem dX7_breaks_407 : decode cX7_breaks 407 = .ok (.iload 5, 2) := by decide +kernel
theorem dX7_breaks_409 : decode cX7_breaks 409 = .ok (.iload_n 2, 1) := by decide +kernel
theorem dX7_breaks_410 : decode cX7_breaks 410 = .ok (.iload 4, 2) := by decide +kernel
theorem dX7_breaks_412 : decode cX7_breaks 412 = .ok (.iadd, 1) := by decide +kernel
theorem dX7_breaks_413 : decode cX7_breaks 413 = .ok (.if_icmp .ge 20, 3) := by decide +kernel
theorem dX7_breaks_416 : decode cX7_breaks 416 = .ok (.aload_n 0, 1) := by decide +kernel
theorem dX7_breaks_417 : decode cX7_breaks 417 = .ok (.getfield 89, 3) := by decide +kernel
theorem dX7_breaks_420 : decode cX7_breaks 420 = .ok (.iload 5, 2) := by decide +kernel
theorem dX7_breaks_422 : decode cX7_breaks 422 = .ok (.aload_n 0, 1) := by decide +kernel
theorem dX7_breaks_423 : decode cX7_breaks 423 = .ok (.getfield 190, 3) := by decide +kernel
theorem dX7_breaks_426 : decode cX7_breaks 426 = .ok (.iastore, 1) := by decide +kernel
theorem dX7_breaks_427 : decode cX7_breaks 427 = .ok (.iinc 5 1, 3) := by decide +kernel
theorem dX7_breaks_430 : decode cX7_breaks 430 = .ok (.goto (-23), 3) := by decide +kernel
theorem dX7_breaks_433 : decode cX7_breaks 433 = .ok (.iload_n 2, 1) := by decide +kernel
theorem dX7_breaks_434 : decode cX7_breaks 434 = .ok (.iload 4, 2) := by decide +kernel
theorem dX7_breaks_436 : decode cX7_breaks 436 = .ok (.iadd, 1) := by decide +kernel
theorem dX7_breaks_437 : decode cX7_breaks 437 = .ok (.istore_n 2, 1) := by decide +kernel
theorem dX7_breaks_438 : decode cX7_breaks 438 = .ok (.aload_n 0, 1) := by decide +kernel
theorem dX7_breaks_439 : decode cX7_breaks 439 = .ok (.dup, 1) := by decide +kernel
theorem dX7_breaks_440 : decode cX7_breaks 440 = .ok (.getfield 190, 3) := by decide +kernel
theorem dX7_breaks_443 : decode cX7_breaks 443 = .ok (.iconst 1, 1) := by decide +kernel
theorem dX7_breaks_444 : decode cX7_breaks 444 = .ok (.iadd, 1) := by decide +kernel
theorem dX7_breaks_445 : decode cX7_breaks 445 = .ok (.putfield 190, 3) := by decide +kernel
theorem dX7_breaks_448 : decode cX7_breaks 448 = .ok (.aload_n 0, 1) := by decide +kernel
theorem dX7_breaks_449 : decode cX7_breaks 449 = .ok (.dup, 1) := by decide +kernel
theorem dX7_breaks_450 : decode cX7_breaks 450 = .ok (.getfield 193, 3) := by decide +kernel
theorem dX7_breaks_453 : decode cX7_breaks 453 = .ok (.iload_n 3, 1) := by decide +kernel
theorem dX7_breaks_454 : decode cX7_breaks 454 = .ok (.aload_n 0, 1) := by decide +kernel
theorem dX7_breaks_455 : decode cX7_breaks 455 = .ok (.getfield 29, 3) := by decide +kernel
theorem dX7_breaks_458 : decode cX7_breaks 458 = .ok (.iconst 1, 1) := by decide +kernel
theorem dX7_breaks_459 : decode cX7_breaks 459 = .ok (.isub, 1) := by decide +kernel
theorem dX7_breaks_460 : decode cX7_breaks 460 = .ok (.if_icmp .ne 27, 3) := by decide +kernel
theorem dX7_breaks_463 : decode cX7_breaks 463 = .ok (.iload_n 2, 1) := by decide +kernel
theorem dX7_breaks_464 : decode cX7_breaks 464 = .ok (.aload_n 0, 1) := by decide +kernel
theorem dX7_breaks_465 : decode cX7_breaks 465 = .ok (.getfield 161, 3) := by decide +kernel
theorem dX7_breaks_468 : decode cX7_breaks 468 = .ok (.if_icmp .ge 19, 3) := by decide +kernel
theorem dX7_breaks_471 : decode cX7_breaks 471 = .ok (.aload_n 0, 1) := by decide +kernel
theorem dX7_breaks_472 : decode cX7_breaks 472 = .ok (.iload_n 1, 1) := by decide +kernel
theorem dX7_breaks_473 : decode cX7_breaks 473 = .ok (.aload_n 0, 1) := by decide +kernel
theorem dX7_breaks_474 : decode cX7_breaks 474 = .ok (.getfield 56, 3) := by decide +kernel
theorem dX7_breaks_477 : decode cX7_breaks 477 = .ok (.iload_n 2, 1) := by decide +kernel
theorem dX7_breaks_478 : decode cX7_breaks 478 = .ok (.iconst 1, 1) := by decide +kernel
theorem dX7_breaks_479 : decode cX7_breaks 479 = .ok (.isub, 1) := by decide +kernel
theorem dX7_breaks_480 : decode cX7_breaks 480 = .ok (.iaload, 1) := by decide +kernel
theorem dX7_breaks_481 : decode cX7_breaks 481 = .ok (.invokevirtual 187, 3) := by decide +kernel
theorem dX7_breaks_484 : decode cX7_breaks 484 = .ok (.goto 4, 3) := by decide +kernel
theorem dX7_breaks_487 : decode cX7_breaks 487 = .ok (.iconst 0, 1) := by decide +kernel
theorem dX7_breaks_488 : decode cX7_breaks 488 = .ok (.iadd, 1) := by decide +kernel
theorem dX7_breaks_489 : decode cX7_breaks 489 = .ok (.putfield 193, 3) := by decide +kernel
theorem dX7_breaks_492 : decode cX7_breaks 492 = .ok (.goto (-119), 3) := by decide +kernel
theorem dX7_breaks_495 : decode cX7_breaks 495 = .ok (.return_, 1) := by decide +kernel
theorem dX7_lays_0 : decode cX7_lays 0 = .ok (.aload_n 0, 1) := by decide +kernel
theorem dX7_lays_1 : decode cX7_lays 1 = .ok (.iload_n 1, 1) := by decide +kernel
theorem dX7_lays_2 : decode cX7_lays 2 = .ok (.invokevirtual 196, 3) := by decide +kernel
theorem dX7_lays_5 : decode cX7_lays 5 = .ok (.aload_n 0, 1) := by decide +kernel
theorem dX7_lays_6 : decode cX7_lays 6 = .ok (.invokevirtual 199, 3) := by decide +kernel
theorem dX7_lays_9 : decode cX7_lays 9 = .ok (.aload_n 0, 1) := by decide +kernel
theorem dX7_lays_10 : decode cX7_lays 10 = .ok (.iload_n 1, 1) := by decide +kernel
theorem dX7_lays_11 : decode cX7_lays 11 = .ok (.invokevirtual 202, 3) := by decide +kernel
theorem dX7_lays_14 : decode cX7_lays 14 = .ok (.return_, 1) := by decide +kernel
theorem dX7_itemWith_0 : decode cX7_itemWith 0 = .ok (.iconst 0, 1) := by decide +kernel
theorem dX7_itemWith_1 : decode cX7_itemWith 1 = .ok (.istore_n 2, 1) := by decide +kernel
theorem dX7_itemWith_2 : decode cX7_itemWith 2 = .ok (.aload_n 0, 1) := by decide +kernel
theorem dX7_itemWith_3 : decode cX7_itemWith 3 = .ok (.getfield 56, 3) := by decide +kernel
theorem dX7_itemWith_6 : decode cX7_itemWith 6 = .ok (.iload_n 2, 1) := by decide +kernel
theorem dX7_itemWith_7 : decode cX7_itemWith 7 = .ok (.iaload, 1) := by decide +kernel
theorem dX7_itemWith_8 : decode cX7_itemWith 8 = .ok (.iload_n 1, 1) := by decide +kernel
theorem dX7_itemWith_9 : decode cX7_itemWith 9 = .ok (.if_icmp .ge 9, 3) := by decide +kernel
theorem dX7_itemWith_12 : decode cX7_itemWith 12 = .ok (.iinc 2 1, 3) := by decide +kernel
theorem dX7_itemWith_15 : decode cX7_itemWith 15 = .ok (.goto (-13), 3) := by decide +kernel
theorem dX7_itemWith_18 : decode cX7_itemWith 18 = .ok (.iload_n 2, 1) := by decide +kernel
theorem dX7_itemWith_19 : decode cX7_itemWith 19 = .ok (.ireturn, 1) := by decide +kernel
theorem dX7_items_0 : decode cX7_items 0 = .ok (.aload_n 0, 1) := by decide +kernel
theorem dX7_items_1 : decode cX7_items 1 = .ok (.iload_n 1, 1) := by decide +kernel
theorem dX7_items_2 : decode cX7_items 2 = .ok (.invokestatic 205, 3) := by decide +kernel
theorem dX7_items_5 : decode cX7_items 5 = .ok (.iconst 1, 1) := by decide +kernel
theorem dX7_items_6 : decode cX7_items 6 = .ok (.iconst 1, 1) := by decide +kernel
theorem dX7_items_7 : decode cX7_items 7 = .ok (.invokevirtual 105, 3) := by decide +kernel
theorem dX7_items_10 : decode cX7_items 10 = .ok (.ifCond .ne 5, 3) := by decide +kernel
theorem dX7_items_13 : decode cX7_items 13 = .ok (.iconst 0, 1) := by decide +kernel
theorem dX7_items_14 : decode cX7_items 14 = .ok (.ireturn, 1) := by decide +kernel
theorem dX7_items_15 : decode cX7_items 15 = .ok (.aload_n 0, 1) := by decide +kernel
theorem dX7_items_16 : decode cX7_items 16 = .ok (.iload_n 1, 1) := by decide +kernel
theorem dX7_items_17 : decode cX7_items 17 = .ok (.invokevirtual 196, 3) := by decide +kernel
theorem dX7_items_20 : decode cX7_items 20 = .ok (.aload_n 0, 1) := by decide +kernel
theorem dX7_items_21 : decode cX7_items 21 = .ok (.getfield 161, 3) := by decide +kernel
theorem dX7_items_24 : decode cX7_items 24 = .ok (.ireturn, 1) := by decide +kernel
theorem dX7_itemOf_0 : decode cX7_itemOf 0 = .ok (.aload_n 0, 1) := by decide +kernel
theorem dX7_itemOf_1 : decode cX7_itemOf 1 = .ok (.iload_n 1, 1) := by decide +kernel
theorem dX7_itemOf_2 : decode cX7_itemOf 2 = .ok (.invokestatic 205, 3) := by decide +kernel
theorem dX7_itemOf_5 : decode cX7_itemOf 5 = .ok (.ifCond .eq 15, 3) := by decide +kernel
theorem dX7_itemOf_8 : decode cX7_itemOf 8 = .ok (.aload_n 0, 1) := by decide +kernel
theorem dX7_itemOf_9 : decode cX7_itemOf 9 = .ok (.iload_n 2, 1) := by decide +kernel
theorem dX7_itemOf_10 : decode cX7_itemOf 10 = .ok (.invokevirtual 113, 3) := by decide +kernel
theorem dX7_itemOf_13 : decode cX7_itemOf 13 = .ok (.ifCond .eq 7, 3) := by decide +kernel
theorem dX7_itemOf_16 : decode cX7_itemOf 16 = .ok (.iconst 1, 1) := by decide +kernel
theorem dX7_itemOf_17 : decode cX7_itemOf 17 = .ok (.goto 4, 3) := by decide +kernel
theorem dX7_itemOf_20 : decode cX7_itemOf 20 = .ok (.iconst 0, 1) := by decide +kernel
theorem dX7_itemOf_21 : decode cX7_itemOf 21 = .ok (.iconst 1, 1) := by decide +kernel
theorem dX7_itemOf_22 : decode cX7_itemOf 22 = .ok (.iconst 1, 1) := by decide +kernel
theorem dX7_itemOf_23 : decode cX7_itemOf 23 = .ok (.invokevirtual 105, 3) := by decide +kernel
theorem dX7_itemOf_26 : decode cX7_itemOf 26 = .ok (.ifCond .ne 5, 3) := by decide +kernel
theorem dX7_itemOf_29 : decode cX7_itemOf 29 = .ok (.iconst 0, 1) := by decide +kernel
theorem dX7_itemOf_30 : decode cX7_itemOf 30 = .ok (.ireturn, 1) := by decide +kernel
theorem dX7_itemOf_31 : decode cX7_itemOf 31 = .ok (.aload_n 0, 1) := by decide +kernel
theorem dX7_itemOf_32 : decode cX7_itemOf 32 = .ok (.iload_n 1, 1) := by decide +kernel
theorem dX7_itemOf_33 : decode cX7_itemOf 33 = .ok (.invokevirtual 196, 3) := by decide +kernel
theorem dX7_itemOf_36 : decode cX7_itemOf 36 = .ok (.aload_n 0, 1) := by decide +kernel
theorem dX7_itemOf_37 : decode cX7_itemOf 37 = .ok (.iload_n 2, 1) := by decide +kernel
theorem dX7_itemOf_38 : decode cX7_itemOf 38 = .ok (.invokevirtual 208, 3) := by decide +kernel
theorem dX7_itemOf_41 : decode cX7_itemOf 41 = .ok (.ireturn, 1) := by decide +kernel
theorem dX7_cue_0 : decode cX7_cue 0 = .ok (.aload_n 0, 1) := by decide +kernel
theorem dX7_cue_1 : decode cX7_cue 1 = .ok (.iload_n 1, 1) := by decide +kernel
theorem dX7_cue_2 : decode cX7_cue 2 = .ok (.invokestatic 109, 3) := by decide +kernel
theorem dX7_cue_5 : decode cX7_cue 5 = .ok (.ifCond .eq 15, 3) := by decide +kernel
theorem dX7_cue_8 : decode cX7_cue 8 = .ok (.aload_n 0, 1) := by decide +kernel
theorem dX7_cue_9 : decode cX7_cue 9 = .ok (.iload_n 2, 1) := by decide +kernel
theorem dX7_cue_10 : decode cX7_cue 10 = .ok (.invokevirtual 113, 3) := by decide +kernel
theorem dX7_cue_13 : decode cX7_cue 13 = .ok (.ifCond .eq 7, 3) := by decide +kernel
theorem dX7_cue_16 : decode cX7_cue 16 = .ok (.iconst 1, 1) := by decide +kernel
theorem dX7_cue_17 : decode cX7_cue 17 = .ok (.goto 4, 3) := by decide +kernel
theorem dX7_cue_20 : decode cX7_cue 20 = .ok (.iconst 0, 1) := by decide +kernel
theorem dX7_cue_21 : decode cX7_cue 21 = .ok (.iconst 1, 1) := by decide +kernel
theorem dX7_cue_22 : decode cX7_cue 22 = .ok (.iconst 1, 1) := by decide +kernel
theorem dX7_cue_23 : decode cX7_cue 23 = .ok (.invokevirtual 105, 3) := by decide +kernel
theorem dX7_cue_26 : decode cX7_cue 26 = .ok (.ifCond .ne 5, 3) := by decide +kernel
theorem dX7_cue_29 : decode cX7_cue 29 = .ok (.iconst 0, 1) := by decide +kernel
theorem dX7_cue_30 : decode cX7_cue 30 = .ok (.ireturn, 1) := by decide +kernel
theorem dX7_cue_31 : decode cX7_cue 31 = .ok (.aload_n 0, 1) := by decide +kernel
theorem dX7_cue_32 : decode cX7_cue 32 = .ok (.iload_n 1, 1) := by decide +kernel
theorem dX7_cue_33 : decode cX7_cue 33 = .ok (.invokevirtual 196, 3) := by decide +kernel
theorem dX7_cue_36 : decode cX7_cue 36 = .ok (.aload_n 0, 1) := by decide +kernel
theorem dX7_cue_37 : decode cX7_cue 37 = .ok (.getfield 59, 3) := by decide +kernel
theorem dX7_cue_40 : decode cX7_cue 40 = .ok (.aload_n 0, 1) := by decide +kernel
theorem dX7_cue_41 : decode cX7_cue 41 = .ok (.iload_n 2, 1) := by decide +kernel
theorem dX7_cue_42 : decode cX7_cue 42 = .ok (.invokevirtual 208, 3) := by decide +kernel
theorem dX7_cue_45 : decode cX7_cue 45 = .ok (.iaload, 1) := by decide +kernel
theorem dX7_cue_46 : decode cX7_cue 46 = .ok (.istore_n 3, 1) := by decide +kernel
theorem dX7_cue_47 : decode cX7_cue 47 = .ok (.iload_n 3, 1) := by decide +kernel
theorem dX7_cue_48 : decode cX7_cue 48 = .ok (.iload_n 1, 1) := by decide +kernel
theorem dX7_cue_49 : decode cX7_cue 49 = .ok (.if_icmp .ne 7, 3) := by decide +kernel
theorem dX7_cue_52 : decode cX7_cue 52 = .ok (.iconst (-1), 1) := by decide +kernel
theorem dX7_cue_53 : decode cX7_cue 53 = .ok (.goto 4, 3) := by decide +kernel
theorem dX7_cue_56 : decode cX7_cue 56 = .ok (.iload_n 3, 1) := by decide +kernel
theorem dX7_cue_57 : decode cX7_cue 57 = .ok (.ireturn, 1) := by decide +kernel
theorem dX7_width_0 : decode cX7_width 0 = .ok (.iload_n 1, 1) := by decide +kernel
theorem dX7_width_1 : decode cX7_width 1 = .ok (.invokestatic 205, 3) := by decide +kernel
theorem dX7_width_4 : decode cX7_width 4 = .ok (.istore_n 3, 1) := by decide +kernel
theorem dX7_width_5 : decode cX7_width 5 = .ok (.iload_n 3, 1) := by decide +kernel
theorem dX7_width_6 : decode cX7_width 6 = .ok (.ifCond .eq 8, 3) := by decide +kernel
theorem dX7_width_9 : decode cX7_width 9 = .ok (.aload_n 0, 1) := by decide +kernel
theorem dX7_width_10 : decode cX7_width 10 = .ok (.iload_n 1, 1) := by decide +kernel
theorem dX7_width_11 : decode cX7_width 11 = .ok (.invokevirtual 211, 3) := by decide +kernel
theorem dX7_width_14 : decode cX7_width 14 = .ok (.aload_n 0, 1) := by decide +kernel
theorem dX7_width_15 : decode cX7_width 15 = .ok (.iload_n 3, 1) := by decide +kernel
theorem dX7_width_16 : decode cX7_width 16 = .ok (.ifCond .eq 21, 3) := by decide +kernel
theorem dX7_width_19 : decode cX7_width 19 = .ok (.iload_n 2, 1) := by decide +kernel
theorem dX7_width_20 : decode cX7_width 20 = .ok (.iconst 0, 1) := by decide +kernel
theorem dX7_width_21 : decode cX7_width 21 = .ok (.aload_n 0, 1) := by decide +kernel
theorem dX7_width_22 : decode cX7_width 22 = .ok (.getfield 161, 3) := by decide +kernel
theorem dX7_width_25 : decode cX7_width 25 = .ok (.iconst 1, 1) := by decide +kernel
theorem dX7_width_26 : decode cX7_width 26 = .ok (.isub, 1) := by decide +kernel
theorem dX7_width_27 : decode cX7_width 27 = .ok (.invokestatic 95, 3) := by decide +kernel
theorem dX7_width_30 : decode cX7_width 30 = .ok (.ifCond .eq 7, 3) := by decide +kernel
theorem dX7_width_33 : decode cX7_width 33 = .ok (.iconst 1, 1) := by decide +kernel
theorem dX7_width_34 : decode cX7_width 34 = .ok (.goto 4, 3) := by decide +kernel
theorem dX7_width_37 : decode cX7_width 37 = .ok (.iconst 0, 1) := by decide +kernel
theorem dX7_width_38 : decode cX7_width 38 = .ok (.iconst 1, 1) := by decide +kernel
theorem dX7_width_39 : decode cX7_width 39 = .ok (.iconst 1, 1) := by decide +kernel
theorem dX7_width_40 : decode cX7_width 40 = .ok (.invokevirtual 105, 3) := by decide +kernel
theorem dX7_width_43 : decode cX7_width 43 = .ok (.ifCond .eq 12, 3) := by decide +kernel
theorem dX7_width_46 : decode cX7_width 46 = .ok (.aload_n 0, 1) := by decide +kernel
theorem dX7_width_47 : decode cX7_width 47 = .ok (.getfield 74, 3) := by decide +kernel
theorem dX7_width_50 : decode cX7_width 50 = .ok (.iload_n 2, 1) := by decide +kernel
theorem dX7_width_51 : decode cX7_width 51 = .ok (.iaload, 1) := by decide +kernel
theorem dX7_width_52 : decode cX7_width 52 = .ok (.goto 4, 3) := by decide +kernel
theorem dX7_width_55 : decode cX7_width 55 = .ok (.iconst 0, 1) := by decide +kernel
theorem dX7_width_56 : decode cX7_width 56 = .ok (.ireturn, 1) := by decide +kernel
theorem dX7_lines_0 : decode cX7_lines 0 = .ok (.aload_n 0, 1) := by decide +kernel
theorem dX7_lines_1 : decode cX7_lines 1 = .ok (.iload_n 1, 1) := by decide +kernel
theorem dX7_lines_2 : decode cX7_lines 2 = .ok (.invokestatic 205, 3) := by decide +kernel
theorem dX7_lines_5 : decode cX7_lines 5 = .ok (.iconst 1, 1) := by decide +kernel
theorem dX7_lines_6 : decode cX7_lines 6 = .ok (.iconst 1, 1) := by decide +kernel
theorem dX7_lines_7 : decode cX7_lines 7 = .ok (.invokevirtual 105, 3) := by decide +kernel
theorem dX7_lines_10 : decode cX7_lines 10 = .ok (.ifCond .ne 5, 3) := by decide +kernel
theorem dX7_lines_13 : decode cX7_lines 13 = .ok (.iconst 0, 1) := by decide +kernel
theorem dX7_lines_14 : decode cX7_lines 14 = .ok (.ireturn, 1) := by decide +kernel
theorem dX7_lines_15 : decode cX7_lines 15 = .ok (.aload_n 0, 1) := by decide +kernel
theorem dX7_lines_16 : decode cX7_lines 16 = .ok (.iload_n 1, 1) := by decide +kernel
theorem dX7_lines_17 : decode cX7_lines 17 = .ok (.invokevirtual 211, 3) := by decide +kernel
theorem dX7_lines_20 : decode cX7_lines 20 = .ok (.aload_n 0, 1) := by decide +kernel
theorem dX7_lines_21 : decode cX7_lines 21 = .ok (.getfield 190, 3) := by decide +kernel
theorem dX7_lines_24 : decode cX7_lines 24 = .ok (.ireturn, 1) := by decide +kernel
theorem dX7_lineOf_0 : decode cX7_lineOf 0 = .ok (.aload_n 0, 1) := by decide +kernel
theorem dX7_lineOf_1 : decode cX7_lineOf 1 = .ok (.iload_n 1, 1) := by decide +kernel
theorem dX7_lineOf_2 : decode cX7_lineOf 2 = .ok (.invokestatic 205, 3) := by decide +kernel
theorem dX7_lineOf_5 : decode cX7_lineOf 5 = .ok (.ifCond .eq 15, 3) := by decide +kernel
theorem dX7_lineOf_8 : decode cX7_lineOf 8 = .ok (.aload_n 0, 1) := by decide +kernel
theorem dX7_lineOf_9 : decode cX7_lineOf 9 = .ok (.iload_n 2, 1) := by decide +kernel
theorem dX7_lineOf_10 : decode cX7_lineOf 10 = .ok (.invokevirtual 113, 3) := by decide +kernel
theorem dX7_lineOf_13 : decode cX7_lineOf 13 = .ok (.ifCond .eq 7, 3) := by decide +kernel
theorem dX7_lineOf_16 : decode cX7_lineOf 16 = .ok (.iconst 1, 1) := by decide +kernel
theorem dX7_lineOf_17 : decode cX7_lineOf 17 = .ok (.goto 4, 3) := by decide +kernel
theorem dX7_lineOf_20 : decode cX7_lineOf 20 = .ok (.iconst 0, 1) := by decide +kernel
theorem dX7_lineOf_21 : decode cX7_lineOf 21 = .ok (.iconst 1, 1) := by decide +kernel
theorem dX7_lineOf_22 : decode cX7_lineOf 22 = .ok (.iconst 1, 1) := by decide +kernel
theorem dX7_lineOf_23 : decode cX7_lineOf 23 = .ok (.invokevirtual 105, 3) := by decide +kernel
theorem dX7_lineOf_26 : decode cX7_lineOf 26 = .ok (.ifCond .ne 5, 3) := by decide +kernel
theorem dX7_lineOf_29 : decode cX7_lineOf 29 = .ok (.iconst 0, 1) := by decide +kernel
theorem dX7_lineOf_30 : decode cX7_lineOf 30 = .ok (.ireturn, 1) := by decide +kernel
theorem dX7_lineOf_31 : decode cX7_lineOf 31 = .ok (.aload_n 0, 1) := by decide +kernel
theorem dX7_lineOf_32 : decode cX7_lineOf 32 = .ok (.iload_n 1, 1) := by decide +kernel
theorem dX7_lineOf_33 : decode cX7_lineOf 33 = .ok (.invokevirtual 211, 3) := by decide +kernel
theorem dX7_lineOf_36 : decode cX7_lineOf 36 = .ok (.aload_n 0, 1) := by decide +kernel
theorem dX7_lineOf_37 : decode cX7_lineOf 37 = .ok (.getfield 89, 3) := by decide +kernel
theorem dX7_lineOf_40 : decode cX7_lineOf 40 = .ok (.aload_n 0, 1) := by decide +kernel
theorem dX7_lineOf_41 : decode cX7_lineOf 41 = .ok (.iload_n 2, 1) := by decide +kernel
theorem dX7_lineOf_42 : decode cX7_lineOf 42 = .ok (.invokevirtual 208, 3) := by decide +kernel
theorem dX7_lineOf_45 : decode cX7_lineOf 45 = .ok (.iaload, 1) := by decide +kernel
theorem dX7_lineOf_46 : decode cX7_lineOf 46 = .ok (.ireturn, 1) := by decide +kernel
theorem dX7_cost_0 : decode cX7_cost 0 = .ok (.aload_n 0, 1) := by decide +kernel
theorem dX7_cost_1 : decode cX7_cost 1 = .ok (.iload_n 1, 1) := by decide +kernel
theorem dX7_cost_2 : decode cX7_cost 2 = .ok (.invokestatic 205, 3) := by decide +kernel
theorem dX7_cost_5 : decode cX7_cost 5 = .ok (.iconst 1, 1) := by decide +kernel
theorem dX7_cost_6 : decode cX7_cost 6 = .ok (.iconst 1, 1) := by decide +kernel
theorem dX7_cost_7 : decode cX7_cost 7 = .ok (.invokevirtual 105, 3) := by decide +kernel
theorem dX7_cost_10 : decode cX7_cost 10 = .ok (.ifCond .ne 5, 3) := by decide +kernel
theorem dX7_cost_13 : decode cX7_cost 13 = .ok (.iconst 0, 1) := by decide +kernel
theorem dX7_cost_14 : decode cX7_cost 14 = .ok (.ireturn, 1) := by decide +kernel
theorem dX7_cost_15 : decode cX7_cost 15 = .ok (.aload_n 0, 1) := by decide +kernel
theorem dX7_cost_16 : decode cX7_cost 16 = .ok (.iload_n 1, 1) := by decide +kernel
theorem dX7_cost_17 : decode cX7_cost 17 = .ok (.invokevirtual 211, 3) := by decide +kernel
theorem dX7_cost_20 : decode cX7_cost 20 = .ok (.aload_n 0, 1) := by decide +kernel
theorem dX7_cost_21 : decode cX7_cost 21 = .ok (.getfield 161, 3) := by decide +kernel
theorem dX7_cost_24 : decode cX7_cost 24 = .ok (.ifCond .ne 7, 3) := by decide +kernel
theorem dX7_cost_27 : decode cX7_cost 27 = .ok (.iconst 0, 1) := by decide +kernel
theorem dX7_cost_28 : decode cX7_cost 28 = .ok (.goto 9, 3) := by decide +kernel
theorem dX7_cost_31 : decode cX7_cost 31 = .ok (.aload_n 0, 1) := by decide +kernel
theorem dX7_cost_32 : decode cX7_cost 32 = .ok (.getfield 80, 3) := by decide +kernel
theorem dX7_cost_35 : decode cX7_cost 35 = .ok (.iconst 0, 1) := by decide +kernel
theorem dX7_cost_36 : decode cX7_cost 36 = .ok (.iaload, 1) := by decide +kernel
theorem dX7_cost_37 : decode cX7_cost 37 = .ok (.ireturn, 1) := by decide +kernel
theorem dX7_costByAll_0 : decode cX7_costByAll 0 = .ok (.aload_n 0, 1) := by decide +kernel
theorem dX7_costByAll_1 : decode cX7_costByAll 1 = .ok (.iload_n 1, 1) := by decide +kernel
theorem dX7_costByAll_2 : decode cX7_costByAll 2 = .ok (.invokevirtual 214, 3) := by decide +kernel
theorem dX7_costByAll_5 : decode cX7_costByAll 5 = .ok (.ireturn, 1) := by decide +kernel
theorem dX7_turns_0 : decode cX7_turns 0 = .ok (.aload_n 0, 1) := by decide +kernel
theorem dX7_turns_1 : decode cX7_turns 1 = .ok (.iload_n 1, 1) := by decide +kernel
theorem dX7_turns_2 : decode cX7_turns 2 = .ok (.invokestatic 205, 3) := by decide +kernel
theorem dX7_turns_5 : decode cX7_turns 5 = .ok (.iconst 1, 1) := by decide +kernel
theorem dX7_turns_6 : decode cX7_turns 6 = .ok (.iconst 1, 1) := by decide +kernel
theorem dX7_turns_7 : decode cX7_turns 7 = .ok (.invokevirtual 105, 3) := by decide +kernel
theorem dX7_turns_10 : decode cX7_turns 10 = .ok (.ifCond .ne 5, 3) := by decide +kernel
theorem dX7_turns_13 : decode cX7_turns 13 = .ok (.iconst 0, 1) := by decide +kernel
theorem dX7_turns_14 : decode cX7_turns 14 = .ok (.ireturn, 1) := by decide +kernel
theorem dX7_turns_15 : decode cX7_turns 15 = .ok (.aload_n 0, 1) := by decide +kernel
theorem dX7_turns_16 : decode cX7_turns 16 = .ok (.iload_n 1, 1) := by decide +kernel
theorem dX7_turns_17 : decode cX7_turns 17 = .ok (.invokevirtual 211, 3) := by decide +kernel
theorem dX7_turns_20 : decode cX7_turns 20 = .ok (.aload_n 0, 1) := by decide +kernel
theorem dX7_turns_21 : decode cX7_turns 21 = .ok (.getfield 193, 3) := by decide +kernel
theorem dX7_turns_24 : decode cX7_turns 24 = .ok (.ireturn, 1) := by decide +kernel
theorem dX7_springAt_0 : decode cX7_springAt 0 = .ok (.aload_n 0, 1) := by decide +kernel
theorem dX7_springAt_1 : decode cX7_springAt 1 = .ok (.iload_n 1, 1) := by decide +kernel
theorem dX7_springAt_2 : decode cX7_springAt 2 = .ok (.invokevirtual 208, 3) := by decide +kernel
theorem dX7_springAt_5 : decode cX7_springAt 5 = .ok (.istore_n 3, 1) := by decide +kernel
theorem dX7_springAt_6 : decode cX7_springAt 6 = .ok (.aload_n 0, 1) := by decide +kernel
theorem dX7_springAt_7 : decode cX7_springAt 7 = .ok (.getfield 62, 3) := by decide +kernel
theorem dX7_springAt_10 : decode cX7_springAt 10 = .ok (.iload_n 3, 1) := by decide +kernel
theorem dX7_springAt_11 : decode cX7_springAt 11 = .ok (.iaload, 1) := by decide +kernel
theorem dX7_springAt_12 : decode cX7_springAt 12 = .ok (.istore 4, 2) := by decide +kernel
theorem dX7_springAt_14 : decode cX7_springAt 14 = .ok (.iload 4, 2) := by decide +kernel
theorem dX7_springAt_16 : decode cX7_springAt 16 = .ok (.aload_n 0, 1) := by decide +kernel
theorem dX7_springAt_17 : decode cX7_springAt 17 = .ok (.getfield 62, 3) := by decide +kernel
theorem dX7_springAt_20 : decode cX7_springAt 20 = .ok (.iload_n 3, 1) := by decide +kernel
theorem dX7_springAt_21 : decode cX7_springAt 21 = .ok (.iconst 1, 1) := by decide +kernel
theorem dX7_springAt_22 : decode cX7_springAt 22 = .ok (.iadd, 1) := by decide +kernel
theorem dX7_springAt_23 : decode cX7_springAt 23 = .ok (.iaload, 1) := by decide +kernel
theorem dX7_springAt_24 : decode cX7_springAt 24 = .ok (.if_icmp .ge 33, 3) := by decide +kernel
theorem dX7_springAt_27 : decode cX7_springAt 27 = .ok (.aload_n 0, 1) := by decide +kernel
theorem dX7_springAt_28 : decode cX7_springAt 28 = .ok (.getfield 53, 3) := by decide +kernel
theorem dX7_springAt_31 : decode cX7_springAt 31 = .ok (.iload_n 3, 1) := by decide +kernel
theorem dX7_springAt_32 : decode cX7_springAt 32 = .ok (.iaload, 1) := by decide +kernel
theorem dX7_springAt_33 : decode cX7_springAt 33 = .ok (.iload_n 1, 1) := by decide +kernel
theorem dX7_springAt_34 : decode cX7_springAt 34 = .ok (.if_icmp .ne 17, 3) := by decide +kernel
theorem dX7_springAt_37 : decode cX7_springAt 37 = .ok (.aload_n 0, 1) := by decide +kernel
theorem dX7_springAt_38 : decode cX7_springAt 38 = .ok (.getfield 65, 3) := by decide +kernel
theorem dX7_springAt_41 : decode cX7_springAt 41 = .ok (.iload 4, 2) := by decide +kernel
theorem dX7_springAt_43 : decode cX7_springAt 43 = .ok (.iaload, 1) := by decide +kernel
theorem dX7_springAt_44 : decode cX7_springAt 44 = .ok (.iload_n 2, 1) := by decide +kernel
theorem dX7_springAt_45 : decode cX7_springAt 45 = .ok (.if_icmp .ne 6, 3) := by decide +kernel
theorem dX7_springAt_48 : decode cX7_springAt 48 = .ok (.iload 4, 2) := by decide +kernel
theorem dX7_springAt_50 : decode cX7_springAt 50 = .ok (.ireturn, 1) := by decide +kernel
theorem dX7_springAt_51 : decode cX7_springAt 51 = .ok (.iinc 4 1, 3) := by decide +kernel
theorem dX7_springAt_54 : decode cX7_springAt 54 = .ok (.goto (-40), 3) := by decide +kernel
theorem dX7_springAt_57 : decode cX7_springAt 57 = .ok (.iconst (-1), 1) := by decide +kernel
theorem dX7_springAt_58 : decode cX7_springAt 58 = .ok (.ireturn, 1) := by decide +kernel
theorem dX7_placeOf_0 : decode cX7_placeOf 0 = .ok (.aload_n 0, 1) := by decide +kernel
theorem dX7_placeOf_1 : decode cX7_placeOf 1 = .ok (.iload_n 1, 1) := by decide +kernel
theorem dX7_placeOf_2 : decode cX7_placeOf 2 = .ok (.invokevirtual 208, 3) := by decide +kernel
theorem dX7_placeOf_5 : decode cX7_placeOf 5 = .ok (.istore_n 3, 1) := by decide +kernel
theorem dX7_placeOf_6 : decode cX7_placeOf 6 = .ok (.aload_n 0, 1) := by decide +kernel
theorem dX7_placeOf_7 : decode cX7_placeOf 7 = .ok (.getfield 89, 3) := by decide +kernel
theorem dX7_placeOf_10 : decode cX7_placeOf 10 = .ok (.iload_n 3, 1) := by decide +kernel
theorem dX7_placeOf_11 : decode cX7_placeOf 11 = .ok (.iaload, 1) := by decide +kernel
theorem dX7_placeOf_12 : decode cX7_placeOf 12 = .ok (.istore 4, 2) := by decide +kernel
theorem dX7_placeOf_14 : decode cX7_placeOf 14 = .ok (.iconst 0, 1) := by decide +kernel
theorem dX7_placeOf_15 : decode cX7_placeOf 15 = .ok (.istore 5, 2) := by decide +kernel
theorem dX7_placeOf_17 : decode cX7_placeOf 17 = .ok (.iconst 0, 1) := by decide +kernel
theorem dX7_placeOf_18 : decode cX7_placeOf 18 = .ok (.istore 6, 2) := by decide +kernel
theorem dX7_placeOf_20 : decode cX7_placeOf 20 = .ok (.iconst 0, 1) := by decide +kernel
theorem dX7_placeOf_21 : decode cX7_placeOf 21 = .ok (.istore 7, 2) := by decide +kernel
theorem dX7_placeOf_23 : decode cX7_placeOf 23 = .ok (.iconst 0, 1) := by decide +kernel
theorem dX7_placeOf_24 : decode cX7_placeOf 24 = .ok (.istore 8, 2) := by decide +kernel
theorem dX7_placeOf_26 : decode cX7_placeOf 26 = .ok (.iconst 0, 1) := by decide +kernel
theorem dX7_placeOf_27 : decode cX7_placeOf 27 = .ok (.istore 9, 2) := by decide +kernel
theorem dX7_placeOf_29 : decode cX7_placeOf 29 = .ok (.iconst 0, 1) := by decide +kernel
theorem dX7_placeOf_30 : decode cX7_placeOf 30 = .ok (.istore 10, 2) := by decide +kernel
theorem dX7_placeOf_32 : decode cX7_placeOf 32 = .ok (.iconst 0, 1) := by decide +kernel
theorem dX7_placeOf_33 : decode cX7_placeOf 33 = .ok (.istore 11, 2) := by decide +kernel
theorem dX7_placeOf_35 : decode cX7_placeOf 35 = .ok (.iload 11, 2) := by decide +kernel
theorem dX7_placeOf_37 : decode cX7_placeOf 37 = .ok (.aload_n 0, 1) := by decide +kernel
theorem dX7_placeOf_38 : decode cX7_placeOf 38 = .ok (.getfield 161, 3) := by decide +kernel
theorem dX7_placeOf_41 : decode cX7_placeOf 41 = .ok (.if_icmp .ge 168, 3) := by decide +kernel
theorem dX7_placeOf_44 : decode cX7_placeOf 44 = .ok (.iload 10, 2) := by decide +kernel
theorem dX7_placeOf_46 : decode cX7_placeOf 46 = .ok (.aload_n 0, 1) := by decide +kernel
theorem dX7_placeOf_47 : decode cX7_placeOf 47 = .ok (.getfield 89, 3) := by decide +kernel
theorem dX7_placeOf_50 : decode cX7_placeOf 50 = .ok (.iload 11, 2) := by decide +kernel
theorem dX7_placeOf_52 : decode cX7_placeOf 52 = .ok (.iaload, 1) := by decide +kernel
theorem dX7_placeOf_53 : decode cX7_placeOf 53 = .ok (.iload 4, 2) := by decide +kernel
theorem dX7_placeOf_55 : decode cX7_placeOf 55 = .ok (.if_icmp .ne 13, 3) := by decide +kernel
theorem dX7_placeOf_58 : decode cX7_placeOf 58 = .ok (.iload 11, 2) := by decide +kernel
theorem dX7_placeOf_60 : decode cX7_placeOf 60 = .ok (.iload_n 3, 1) := by decide +kernel
theorem dX7_placeOf_61 : decode cX7_placeOf 61 = .ok (.if_icmp .ge 7, 3) := by decide +kernel
theorem dX7_placeOf_64 : decode cX7_placeOf 64 = .ok (.iconst 1, 1) := by decide +kernel
theorem dX7_placeOf_65 : decode cX7_placeOf 65 = .ok (.goto 4, 3) := by decide +kernel
theorem dX7_placeOf_68 : decode cX7_placeOf 68 = .ok (.iconst 0, 1) := by decide +kernel
theorem dX7_placeOf_69 : decode cX7_placeOf 69 = .ok (.iadd, 1) := by decide +kernel
theorem dX7_placeOf_70 : decode cX7_placeOf 70 = .ok (.istore 10, 2) := by decide +kernel
theorem dX7_placeOf_72 : decode cX7_placeOf 72 = .ok (.iload 9, 2) := by decide +kernel
theorem dX7_placeOf_74 : decode cX7_placeOf 74 = .ok (.aload_n 0, 1) := by decide +kernel
theorem dX7_placeOf_75 : decode cX7_placeOf 75 = .ok (.getfield 89, 3) := by decide +kernel
theorem dX7_placeOf_78 : decode cX7_placeOf 78 = .ok (.iload 11, 2) := by decide +kernel
theorem dX7_placeOf_80 : decode cX7_placeOf 80 = .ok (.iaload, 1) := by decide +kernel
theorem dX7_placeOf_81 : decode cX7_placeOf 81 = .ok (.iload 4, 2) := by decide +kernel
theorem dX7_placeOf_83 : decode cX7_placeOf 83 = .ok (.if_icmp .ne 7, 3) := by decide +kernel
theorem dX7_placeOf_86 : decode cX7_placeOf 86 = .ok (.iconst 1, 1) := by decide +kernel
theorem dX7_placeOf_87 : decode cX7_placeOf 87 = .ok (.goto 4, 3) := by decide +kernel
theorem dX7_placeOf_90 : decode cX7_placeOf 90 = .ok (.iconst 0, 1) := by decide +kernel
theorem dX7_placeOf_91 : decode cX7_placeOf 91 = .ok (.iadd, 1) := by decide +kernel
theorem dX7_placeOf_92 : decode cX7_placeOf 92 = .ok (.istore 9, 2) := by decide +kernel
theorem dX7_placeOf_94 : decode cX7_placeOf 94 = .ok (.aload_n 0, 1) := by decide +kernel
theorem dX7_placeOf_95 : decode cX7_placeOf 95 = .ok (.getfield 62, 3) := by decide +kernel
theorem dX7_placeOf_98 : decode cX7_placeOf 98 = .ok (.iload 11, 2) := by decide +kernel
theorem dX7_placeOf_100 : decode cX7_placeOf 100 = .ok (.iaload, 1) := by decide +kernel
theorem dX7_placeOf_101 : decode cX7_placeOf 101 = .ok (.istore 12, 2) := by decide +kernel
theorem dX7_placeOf_103 : decode cX7_placeOf 103 = .ok (.iload 12, 2) := by decide +kernel
theorem dX7_placeOf_105 : decode cX7_placeOf 105 = .ok (.aload_n 0, 1) := by decide +kernel
theorem dX7_placeOf_106 : decode cX7_placeOf 106 = .ok (.getfield 62, 3) := by decide +kernel
theorem dX7_placeOf_109 : decode cX7_placeOf 109 = .ok (.iload 11, 2) := by decide +kernel
theorem dX7_placeOf_111 : decode cX7_placeOf 111 = .ok (.iconst 1, 1) := by decide +kernel
theorem dX7_placeOf_112 : decode cX7_placeOf 112 = .ok (.iadd, 1) := by decide +kernel
theorem dX7_placeOf_113 : decode cX7_placeOf 113 = .ok (.iaload, 1) := by decide +kernel
theorem dX7_placeOf_114 : decode cX7_placeOf 114 = .ok (.if_icmp .ge 89, 3) := by decide +kernel
theorem dX7_placeOf_117 : decode cX7_placeOf 117 = .ok (.aload_n 0, 1) := by decide +kernel
theorem dX7_placeOf_118 : decode cX7_placeOf 118 = .ok (.getfield 89, 3) := by decide +kernel
theorem dX7_placeOf_121 : decode cX7_placeOf 121 = .ok (.iload 11, 2) := by decide +kernel
theorem dX7_placeOf_123 : decode cX7_placeOf 123 = .ok (.iaload, 1) := by decide +kernel
theorem dX7_placeOf_124 : decode cX7_placeOf 124 = .ok (.iload 4, 2) := by decide +kernel
theorem dX7_placeOf_126 : decode cX7_placeOf 126 = .ok (.if_icmp .ne 77, 3) := by decide +kernel
theorem dX7_placeOf_129 : decode cX7_placeOf 129 = .ok (.iload 7, 2) := by decide +kernel
theorem dX7_placeOf_131 : decode cX7_placeOf 131 = .ok (.aload_n 0, 1) := by decide +kernel
theorem dX7_placeOf_132 : decode cX7_placeOf 132 = .ok (.getfield 68, 3) := by decide +kernel
theorem dX7_placeOf_135 : decode cX7_placeOf 135 = .ok (.iload 12, 2) := by decide +kernel
theorem dX7_placeOf_137 : decode cX7_placeOf 137 = .ok (.iaload, 1) := by decide +kernel
theorem dX7_placeOf_138 : decode cX7_placeOf 138 = .ok (.iadd, 1) := by decide +kernel
theorem dX7_placeOf_139 : decode cX7_placeOf 139 = .ok (.istore 7, 2) := by decide +kernel
theorem dX7_placeOf_141 : decode cX7_placeOf 141 = .ok (.iload 8, 2) := by decide +kernel
theorem dX7_placeOf_143 : decode cX7_placeOf 143 = .ok (.aload_n 0, 1) := by decide +kernel
theorem dX7_placeOf_144 : decode cX7_placeOf 144 = .ok (.getfield 71, 3) := by decide +kernel
theorem dX7_placeOf_147 : decode cX7_placeOf 147 = .ok (.iload 12, 2) := by decide +kernel
theorem dX7_placeOf_149 : decode cX7_placeOf 149 = .ok (.iaload, 1) := by decide +kernel
theorem dX7_placeOf_150 : decode cX7_placeOf 150 = .ok (.iadd, 1) := by decide +kernel
theorem dX7_placeOf_151 : decode cX7_placeOf 151 = .ok (.istore 8, 2) := by decide +kernel
theorem dX7_placeOf_153 : decode cX7_placeOf 153 = .ok (.iload 5, 2) := by decide +kernel
theorem dX7_placeOf_155 : decode cX7_placeOf 155 = .ok (.iload 12, 2) := by decide +kernel
theorem dX7_placeOf_157 : decode cX7_placeOf 157 = .ok (.iload_n 2, 1) := by decide +kernel
theorem dX7_placeOf_158 : decode cX7_placeOf 158 = .ok (.if_icmp .ge 13, 3) := by decide +kernel
theorem dX7_placeOf_161 : decode cX7_placeOf 161 = .ok (.aload_n 0, 1) := by decide +kernel
theorem dX7_placeOf_162 : decode cX7_placeOf 162 = .ok (.getfield 68, 3) := by decide +kernel
theorem dX7_placeOf_165 : decode cX7_placeOf 165 = .ok (.iload 12, 2) := by decide +kernel
theorem dX7_placeOf_167 : decode cX7_placeOf 167 = .ok (.iaload, 1) := by decide +kernel
theorem dX7_placeOf_168 : decode cX7_placeOf 168 = .ok (.goto 4, 3) := by decide +kernel
theorem dX7_placeOf_171 : decode cX7_placeOf 171 = .ok (.iconst 0, 1) := by decide +kernel
theorem dX7_placeOf_172 : decode cX7_placeOf 172 = .ok (.iadd, 1) := by decide +kernel
theorem dX7_placeOf_173 : decode cX7_placeOf 173 = .ok (.istore 5, 2) := by decide +kernel
theorem dX7_placeOf_175 : decode cX7_placeOf 175 = .ok (.iload 6, 2) := by decide +kernel
theorem dX7_placeOf_177 : decode cX7_placeOf 177 = .ok (.iload 12, 2) := by decide +kernel
theorem dX7_placeOf_179 : decode cX7_placeOf 179 = .ok (.iload_n 2, 1) := by decide +kernel
theorem dX7_placeOf_180 : decode cX7_placeOf 180 = .ok (.if_icmp .ge 13, 3) := by decide +kernel
theorem dX7_placeOf_183 : decode cX7_placeOf 183 = .ok (.aload_n 0, 1) := by decide +kernel
theorem dX7_placeOf_184 : decode cX7_placeOf 184 = .ok (.getfield 71, 3) := by decide +kernel
theorem dX7_placeOf_187 : decode cX7_placeOf 187 = .ok (.iload 12, 2) := by decide +kernel
theorem dX7_placeOf_189 : decode cX7_placeOf 189 = .ok (.iaload, 1) := by decide +kernel
theorem dX7_placeOf_190 : decode cX7_placeOf 190 = .ok (.goto 4, 3) := by decide +kernel
theorem dX7_placeOf_193 : decode cX7_placeOf 193 = .ok (.iconst 0, 1) := by decide +kernel
theorem dX7_placeOf_194 : decode cX7_placeOf 194 = .ok (.iadd, 1) := by decide +kernel
theorem dX7_placeOf_195 : decode cX7_placeOf 195 = .ok (.istore 6, 2) := by decide +kernel
theorem dX7_placeOf_197 : decode cX7_placeOf 197 = .ok (.iinc 12 1, 3) := by decide +kernel
theorem dX7_placeOf_200 : decode cX7_placeOf 200 = .ok (.goto (-97), 3) := by decide +kernel
theorem dX7_placeOf_203 : decode cX7_placeOf 203 = .ok (.iinc 11 1, 3) := by decide +kernel
theorem dX7_placeOf_206 : decode cX7_placeOf 206 = .ok (.goto (-171), 3) := by decide +kernel
theorem dX7_placeOf_209 : decode cX7_placeOf 209 = .ok (.bipush 8, 2) := by decide +kernel
theorem dX7_placeOf_211 : decode cX7_placeOf 211 = .ok (.iload 10, 2) := by decide +kernel
theorem dX7_placeOf_213 : decode cX7_placeOf 213 = .ok (.imul, 1) := by decide +kernel
theorem dX7_placeOf_214 : decode cX7_placeOf 214 = .ok (.iconst 4, 1) := by decide +kernel
theorem dX7_placeOf_215 : decode cX7_placeOf 215 = .ok (.iadd, 1) := by decide +kernel
theorem dX7_placeOf_216 : decode cX7_placeOf 216 = .ok (.iload 5, 2) := by decide +kernel
theorem dX7_placeOf_218 : decode cX7_placeOf 218 = .ok (.iadd, 1) := by decide +kernel
theorem dX7_placeOf_219 : decode cX7_placeOf 219 = .ok (.istore 11, 2) := by decide +kernel
theorem dX7_placeOf_221 : decode cX7_placeOf 221 = .ok (.aload_n 0, 1) := by decide +kernel
theorem dX7_placeOf_222 : decode cX7_placeOf 222 = .ok (.getfield 25, 3) := by decide +kernel
theorem dX7_placeOf_225 : decode cX7_placeOf 225 = .ok (.bipush 8, 2) := by decide +kernel
theorem dX7_placeOf_227 : decode cX7_placeOf 227 = .ok (.iload 9, 2) := by decide +kernel
theorem dX7_placeOf_229 : decode cX7_placeOf 229 = .ok (.imul, 1) := by decide +kernel
theorem dX7_placeOf_230 : decode cX7_placeOf 230 = .ok (.isub, 1) := by decide +kernel
theorem dX7_placeOf_231 : decode cX7_placeOf 231 = .ok (.iload 7, 2) := by decide +kernel
theorem dX7_placeOf_233 : decode cX7_placeOf 233 = .ok (.isub, 1) := by decide +kernel
theorem dX7_placeOf_234 : decode cX7_placeOf 234 = .ok (.istore 12, 2) := by decide +kernel
theorem dX7_placeOf_236 : decode cX7_placeOf 236 = .ok (.iload 12, 2) := by decide +kernel
theorem dX7_placeOf_238 : decode cX7_placeOf 238 = .ok (.ifCond .le 26, 3) := by decide +kernel
theorem dX7_placeOf_241 : decode cX7_placeOf 241 = .ok (.iload 4, 2) := by decide +kernel
theorem dX7_placeOf_243 : decode cX7_placeOf 243 = .ok (.aload_n 0, 1) := by decide +kernel
theorem dX7_placeOf_244 : decode cX7_placeOf 244 = .ok (.getfield 190, 3) := by decide +kernel
theorem dX7_placeOf_247 : decode cX7_placeOf 247 = .ok (.iconst 1, 1) := by decide +kernel
theorem dX7_placeOf_248 : decode cX7_placeOf 248 = .ok (.isub, 1) := by decide +kernel
theorem dX7_placeOf_249 : decode cX7_placeOf 249 = .ok (.if_icmp .ge 15, 3) := by decide +kernel
theorem dX7_placeOf_252 : decode cX7_placeOf 252 = .ok (.iload 11, 2) := by decide +kernel
theorem dX7_placeOf_254 : decode cX7_placeOf 254 = .ok (.iload 12, 2) := by decide +kernel
theorem dX7_placeOf_256 : decode cX7_placeOf 256 = .ok (.iload 5, 2) := by decide +kernel
theorem dX7_placeOf_258 : decode cX7_placeOf 258 = .ok (.imul, 1) := by decide +kernel
theorem dX7_placeOf_259 : decode cX7_placeOf 259 = .ok (.iload 7, 2) := by decide +kernel
theorem dX7_placeOf_261 : decode cX7_placeOf 261 = .ok (.idiv, 1) := by decide +kernel
theorem dX7_placeOf_262 : decode cX7_placeOf 262 = .ok (.iadd, 1) := by decide +kernel
theorem dX7_placeOf_263 : decode cX7_placeOf 263 = .ok (.ireturn, 1) := by decide +kernel
theorem dX7_placeOf_264 : decode cX7_placeOf 264 = .ok (.iload 12, 2) := by decide +kernel
theorem dX7_placeOf_266 : decode cX7_placeOf 266 = .ok (.ifCond .ge 52, 3) := by decide +kernel
theorem dX7_placeOf_269 : decode cX7_placeOf 269 = .ok (.iload 7, 2) := by decide +kernel
theorem dX7_placeOf_271 : decode cX7_placeOf 271 = .ok (.iload 8, 2) := by decide +kernel
theorem dX7_placeOf_273 : decode cX7_placeOf 273 = .ok (.if_icmp .le 45, 3) := by decide +kernel
theorem dX7_placeOf_276 : decode cX7_placeOf 276 = .ok (.iload 12, 2) := by decide +kernel
theorem dX7_placeOf_278 : decode cX7_placeOf 278 = .ok (.ineg, 1) := by decide +kernel
theorem dX7_placeOf_279 : decode cX7_placeOf 279 = .ok (.iload 7, 2) := by decide +kernel
theorem dX7_placeOf_281 : decode cX7_placeOf 281 = .ok (.iload 8, 2) := by decide +kernel
theorem dX7_placeOf_283 : decode cX7_placeOf 283 = .ok (.isub, 1) := by decide +kernel
theorem dX7_placeOf_284 : decode cX7_placeOf 284 = .ok (.if_icmp .ge 9, 3) := by decide +kernel
theorem dX7_placeOf_287 : decode cX7_placeOf 287 = .ok (.iload 12, 2) := by decide +kernel
theorem dX7_placeOf_289 : decode cX7_placeOf 289 = .ok (.ineg, 1) := by decide +kernel
theorem dX7_placeOf_290 : decode cX7_placeOf 290 = .ok (.goto 8, 3) := by decide +kernel
theorem dX7_placeOf_293 : decode cX7_placeOf 293 = .ok (.iload 7, 2) := by decide +kernel
theorem dX7_placeOf_295 : decode cX7_placeOf 295 = .ok (.iload 8, 2) := by decide +kernel
theorem dX7_placeOf_297 : decode cX7_placeOf 297 = .ok (.isub, 1) := by decide +kernel
theorem dX7_placeOf_298 : decode cX7_placeOf 298 = .ok (.istore 13, 2) := by decide +kernel
theorem dX7_placeOf_300 : decode cX7_placeOf 300 = .ok (.iload 11, 2) := by decide +kernel
theorem dX7_placeOf_302 : decode cX7_placeOf 302 = .ok (.iload 13, 2) := by decide +kernel
theorem dX7_placeOf_304 : decode cX7_placeOf 304 = .ok (.iload 5, 2) := by decide +kernel
theorem dX7_placeOf_306 : decode cX7_placeOf 306 = .ok (.iload 6, 2) := by decide +kernel
theorem dX7_placeOf_308 : decode cX7_placeOf 308 = .ok (.isub, 1) := by decide +kernel
theorem dX7_placeOf_309 : decode cX7_placeOf 309 = .ok (.imul, 1) := by decide +kernel
theorem dX7_placeOf_310 : decode cX7_placeOf 310 = .ok (.iload 7, 2) := by decide +kernel
theorem dX7_placeOf_312 : decode cX7_placeOf 312 = .ok (.iload 8, 2) := by decide +kernel
theorem dX7_placeOf_314 : decode cX7_placeOf 314 = .ok (.isub, 1) := by decide +kernel
theorem dX7_placeOf_315 : decode cX7_placeOf 315 = .ok (.idiv, 1) := by decide +kernel
theorem dX7_placeOf_316 : decode cX7_placeOf 316 = .ok (.isub, 1) := by decide +kernel
theorem dX7_placeOf_317 : decode cX7_placeOf 317 = .ok (.ireturn, 1) := by decide +kernel
theorem dX7_placeOf_318 : decode cX7_placeOf 318 = .ok (.iload 11, 2) := by decide +kernel
theorem dX7_placeOf_320 : decode cX7_placeOf 320 = .ok (.ireturn, 1) := by decide +kernel
theorem dX7_place_0 : decode cX7_place 0 = .ok (.iload_n 1, 1) := by decide +kernel
theorem dX7_place_1 : decode cX7_place 1 = .ok (.invokestatic 205, 3) := by decide +kernel
theorem dX7_place_4 : decode cX7_place 4 = .ok (.ifCond .eq 15, 3) := by decide +kernel
theorem dX7_place_7 : decode cX7_place 7 = .ok (.aload_n 0, 1) := by decide +kernel
theorem dX7_place_8 : decode cX7_place 8 = .ok (.iload_n 2, 1) := by decide +kernel
theorem dX7_place_9 : decode cX7_place 9 = .ok (.invokevirtual 113, 3) := by decide +kernel
theorem dX7_place_12 : decode cX7_place 12 = .ok (.ifCond .eq 7, 3) := by decide +kernel
theorem dX7_place_15 : decode cX7_place 15 = .ok (.iconst 1, 1) := by decide +kernel
theorem dX7_place_16 : decode cX7_place 16 = .ok (.goto 4, 3) := by decide +kernel
theorem dX7_place_19 : decode cX7_place 19 = .ok (.iconst 0, 1) := by decide +kernel
theorem dX7_place_20 : decode cX7_place 20 = .ok (.istore 4, 2) := by decide +kernel
theorem dX7_place_22 : decode cX7_place 22 = .ok (.iconst (-1), 1) := by decide +kernel
theorem dX7_place_23 : decode cX7_place 23 = .ok (.istore 5, 2) := by decide +kernel
theorem dX7_place_25 : decode cX7_place 25 = .ok (.iload 4, 2) := by decide +kernel
theorem dX7_place_27 : decode cX7_place 27 = .ok (.ifCond .eq 16, 3) := by decide +kernel
theorem dX7_place_30 : decode cX7_place 30 = .ok (.aload_n 0, 1) := by decide +kernel
theorem dX7_place_31 : decode cX7_place 31 = .ok (.iload_n 1, 1) := by decide +kernel
theorem dX7_place_32 : decode cX7_place 32 = .ok (.invokevirtual 211, 3) := by decide +kernel
theorem dX7_place_35 : decode cX7_place 35 = .ok (.aload_n 0, 1) := by decide +kernel
theorem dX7_place_36 : decode cX7_place 36 = .ok (.iload_n 2, 1) := by decide +kernel
theorem dX7_place_37 : decode cX7_place 37 = .ok (.iload_n 3, 1) := by decide +kernel
theorem dX7_place_38 : decode cX7_place 38 = .ok (.invokevirtual 217, 3) := by decide +kernel
theorem dX7_place_41 : decode cX7_place 41 = .ok (.istore 5, 2) := by decide +kernel
theorem dX7_place_43 : decode cX7_place 43 = .ok (.aload_n 0, 1) := by decide +kernel
theorem dX7_place_44 : decode cX7_place 44 = .ok (.iload 5, 2) := by decide +kernel
theorem dX7_place_46 : decode cX7_place 46 = .ok (.iconst (-1), 1) := by decide +kernel
theorem dX7_place_47 : decode cX7_place 47 = .ok (.if_icmp .eq 7, 3) := by decide +kernel
theorem dX7_place_50 : decode cX7_place 50 = .ok (.iconst 1, 1) := by decide +kernel
theorem dX7_place_51 : decode cX7_place 51 = .ok (.goto 4, 3) := by decide +kernel
theorem dX7_place_54 : decode cX7_place 54 = .ok (.iconst 0, 1) := by decide +kernel
theorem dX7_place_55 : decode cX7_place 55 = .ok (.iconst 1, 1) := by decide +kernel
theorem dX7_place_56 : decode cX7_place 56 = .ok (.iconst 1, 1) := by decide +kernel
theorem dX7_place_57 : decode cX7_place 57 = .ok (.invokevirtual 105, 3) := by decide +kernel
theorem dX7_place_60 : decode cX7_place 60 = .ok (.ifCond .eq 13, 3) := by decide +kernel
theorem dX7_place_63 : decode cX7_place 63 = .ok (.aload_n 0, 1) := by decide +kernel
theorem dX7_place_64 : decode cX7_place 64 = .ok (.iload_n 2, 1) := by decide +kernel
theorem dX7_place_65 : decode cX7_place 65 = .ok (.iload 5, 2) := by decide +kernel
theorem dX7_place_67 : decode cX7_place 67 = .ok (.invokevirtual 220, 3) := by decide +kernel
theorem dX7_place_70 : decode cX7_place 70 = .ok (.goto 4, 3) := by decide +kernel
theorem dX7_place_73 : decode cX7_place 73 = .ok (.iconst 0, 1) := by decide +kernel
theorem dX7_place_74 : decode cX7_place 74 = .ok (.ireturn, 1) := by decide +kernel
theorem dX7_copies_0 : decode cX7_copies 0 = .ok (.aload_n 0, 1) := by decide +kernel
theorem dX7_copies_1 : decode cX7_copies 1 = .ok (.iconst 0, 1) := by decide +kernel
theorem dX7_copies_2 : decode cX7_copies 2 = .ok (.putfield 92, 3) := by decide +kernel
theorem dX7_copies_5 : decode cX7_copies 5 = .ok (.aload_n 0, 1) := by decide +kernel
theorem dX7_copies_6 : decode cX7_copies 6 = .ok (.getfield 102, 3) := by decide +kernel
theorem dX7_copies_9 : decode cX7_copies 9 = .ok (.ireturn, 1) := by decide +kernel
theorem dX7_deskOf_0 : decode cX7_deskOf 0 = .ok (.aload_n 0, 1) := by decide +kernel
theorem dX7_deskOf_1 : decode cX7_deskOf 1 = .ok (.aload_n 0, 1) := by decide +kernel
theorem dX7_deskOf_2 : decode cX7_deskOf 2 = .ok (.iload_n 1, 1) := by decide +kernel
theorem dX7_deskOf_3 : decode cX7_deskOf 3 = .ok (.invokevirtual 126, 3) := by decide +kernel
theorem dX7_deskOf_6 : decode cX7_deskOf 6 = .ok (.iconst 1, 1) := by decide +kernel
theorem dX7_deskOf_7 : decode cX7_deskOf 7 = .ok (.iconst 1, 1) := by decide +kernel
theorem dX7_deskOf_8 : decode cX7_deskOf 8 = .ok (.invokevirtual 105, 3) := by decide +kernel
theorem dX7_deskOf_11 : decode cX7_deskOf 11 = .ok (.ifCond .eq 12, 3) := by decide +kernel
theorem dX7_deskOf_14 : decode cX7_deskOf 14 = .ok (.aload_n 0, 1) := by decide +kernel
theorem dX7_deskOf_15 : decode cX7_deskOf 15 = .ok (.getfield 35, 3) := by decide +kernel
theorem dX7_deskOf_18 : decode cX7_deskOf 18 = .ok (.iload_n 1, 1) := by decide +kernel
theorem dX7_deskOf_19 : decode cX7_deskOf 19 = .ok (.iaload, 1) := by decide +kernel
theorem dX7_deskOf_20 : decode cX7_deskOf 20 = .ok (.goto 4, 3) := by decide +kernel
theorem dX7_deskOf_23 : decode cX7_deskOf 23 = .ok (.iconst 0, 1) := by decide +kernel
theorem dX7_deskOf_24 : decode cX7_deskOf 24 = .ok (.ireturn, 1) := by decide +kernel
theorem dX7_has_0 : decode cX7_has 0 = .ok (.aload_n 0, 1) := by decide +kernel
theorem dX7_has_1 : decode cX7_has 1 = .ok (.aload_n 0, 1) := by decide +kernel
theorem dX7_has_2 : decode cX7_has 2 = .ok (.iload_n 1, 1) := by decide +kernel
theorem dX7_has_3 : decode cX7_has 3 = .ok (.invokevirtual 126, 3) := by decide +kernel
theorem dX7_has_6 : decode cX7_has 6 = .ok (.ifCond .eq 15, 3) := by decide +kernel
theorem dX7_has_9 : decode cX7_has 9 = .ok (.aload_n 0, 1) := by decide +kernel
theorem dX7_has_10 : decode cX7_has 10 = .ok (.iload_n 2, 1) := by decide +kernel
theorem dX7_has_11 : decode cX7_has 11 = .ok (.invokevirtual 113, 3) := by decide +kernel
theorem dX7_has_14 : decode cX7_has 14 = .ok (.ifCond .eq 7, 3) := by decide +kernel
theorem dX7_has_17 : decode cX7_has 17 = .ok (.iconst 1, 1) := by decide +kernel
theorem dX7_has_18 : decode cX7_has 18 = .ok (.goto 4, 3) := by decide +kernel
theorem dX7_has_21 : decode cX7_has 21 = .ok (.iconst 0, 1) := by decide +kernel
theorem dX7_has_22 : decode cX7_has 22 = .ok (.iconst 1, 1) := by decide +kernel
theorem dX7_has_23 : decode cX7_has 23 = .ok (.iconst 1, 1) := by decide +kernel
theorem dX7_has_24 : decode cX7_has 24 = .ok (.invokevirtual 105, 3) := by decide +kernel
theorem dX7_has_27 : decode cX7_has 27 = .ok (.ifCond .ne 5, 3) := by decide +kernel
theorem dX7_has_30 : decode cX7_has 30 = .ok (.iconst 0, 1) := by decide +kernel
theorem dX7_has_31 : decode cX7_has 31 = .ok (.ireturn, 1) := by decide +kernel
theorem dX7_has_32 : decode cX7_has 32 = .ok (.aload_n 0, 1) := by decide +kernel
theorem dX7_has_33 : decode cX7_has 33 = .ok (.getfield 35, 3) := by decide +kernel
theorem dX7_has_36 : decode cX7_has 36 = .ok (.iload_n 1, 1) := by decide +kernel
theorem dX7_has_37 : decode cX7_has 37 = .ok (.iaload, 1) := by decide +kernel
theorem dX7_has_38 : decode cX7_has 38 = .ok (.iconst (-1), 1) := by decide +kernel
theorem dX7_has_39 : decode cX7_has 39 = .ok (.if_icmp .ne 21, 3) := by decide +kernel
theorem dX7_has_42 : decode cX7_has 42 = .ok (.aload_n 0, 1) := by decide +kernel
theorem dX7_has_43 : decode cX7_has 43 = .ok (.getfield 22, 3) := by decide +kernel
theorem dX7_has_46 : decode cX7_has 46 = .ok (.aload_n 0, 1) := by decide +kernel
theorem dX7_has_47 : decode cX7_has 47 = .ok (.getfield 32, 3) := by decide +kernel
theorem dX7_has_50 : decode cX7_has 50 = .ok (.iload_n 1, 1) := by decide +kernel
theorem dX7_has_51 : decode cX7_has 51 = .ok (.iaload, 1) := by decide +kernel
theorem dX7_has_52 : decode cX7_has 52 = .ok (.iload_n 2, 1) := by decide +kernel
theorem dX7_has_53 : decode cX7_has 53 = .ok (.invokestatic 116, 3) := by decide +kernel
theorem dX7_has_56 : decode cX7_has 56 = .ok (.iaload, 1) := by decide +kernel
theorem dX7_has_57 : decode cX7_has 57 = .ok (.goto 14, 3) := by decide +kernel
theorem dX7_has_60 : decode cX7_has 60 = .ok (.aload_n 0, 1) := by decide +kernel
theorem dX7_has_61 : decode cX7_has 61 = .ok (.getfield 38, 3) := by decide +kernel
theorem dX7_has_64 : decode cX7_has 64 = .ok (.bipush 12, 2) := by decide +kernel
theorem dX7_has_66 : decode cX7_has 66 = .ok (.iload_n 1, 1) := by decide +kernel
theorem dX7_has_67 : decode cX7_has 67 = .ok (.imul, 1) := by decide +kernel
theorem dX7_has_68 : decode cX7_has 68 = .ok (.iload_n 2, 1) := by decide +kernel
theorem dX7_has_69 : decode cX7_has 69 = .ok (.iadd, 1) := by decide +kernel
theorem dX7_has_70 : decode cX7_has 70 = .ok (.iaload, 1) := by decide +kernel
theorem dX7_has_71 : decode cX7_has 71 = .ok (.ireturn, 1) := by decide +kernel
theorem dX7_owed_0 : decode cX7_owed 0 = .ok (.aload_n 0, 1) := by decide +kernel
theorem dX7_owed_1 : decode cX7_owed 1 = .ok (.aload_n 0, 1) := by decide +kernel
theorem dX7_owed_2 : decode cX7_owed 2 = .ok (.iload_n 1, 1) := by decide +kernel
theorem dX7_owed_3 : decode cX7_owed 3 = .ok (.invokevirtual 126, 3) := by decide +kernel
theorem dX7_owed_6 : decode cX7_owed 6 = .ok (.iconst 1, 1) := by decide +kernel
theorem dX7_owed_7 : decode cX7_owed 7 = .ok (.iconst 1, 1) := by decide +kernel
theorem dX7_owed_8 : decode cX7_owed 8 = .ok (.invokevirtual 105, 3) := by decide +kernel
theorem dX7_owed_11 : decode cX7_owed 11 = .ok (.ifCond .eq 11, 3) := by decide +kernel
theorem dX7_owed_14 : decode cX7_owed 14 = .ok (.aload_n 0, 1) := by decide +kernel
theorem dX7_owed_15 : decode cX7_owed 15 = .ok (.iload_n 1, 1) := by decide +kernel
theorem dX7_owed_16 : decode cX7_owed 16 = .ok (.invokevirtual 144, 3) := by decide +kernel
theorem dX7_owed_19 : decode cX7_owed 19 = .ok (.goto 4, 3) := by decide +kernel
theorem dX7_owed_22 : decode cX7_owed 22 = .ok (.iconst 0, 1) := by decide +kernel
theorem dX7_owed_23 : decode cX7_owed 23 = .ok (.ireturn, 1) := by decide +kernel
theorem dX7_markOf_0 : decode cX7_markOf 0 = .ok (.iload_n 1, 1) := by decide +kernel
theorem dX7_markOf_1 : decode cX7_markOf 1 = .ok (.iconst 0, 1) := by decide +kernel
theorem dX7_markOf_2 : decode cX7_markOf 2 = .ok (.iconst 5, 1) := by decide +kernel
theorem dX7_markOf_3 : decode cX7_markOf 3 = .ok (.invokestatic 95, 3) := by decide +kernel
theorem dX7_markOf_6 : decode cX7_markOf 6 = .ok (.ifCond .eq 22, 3) := by decide +kernel
theorem dX7_markOf_9 : decode cX7_markOf 9 = .ok (.iload_n 2, 1) := by decide +kernel
theorem dX7_markOf_10 : decode cX7_markOf 10 = .ok (.invokestatic 109, 3) := by decide +kernel
theorem dX7_markOf_13 : decode cX7_markOf 13 = .ok (.ifCond .eq 15, 3) := by decide +kernel
theorem dX7_markOf_16 : decode cX7_markOf 16 = .ok (.aload_n 0, 1) := by decide +kernel
theorem dX7_markOf_17 : decode cX7_markOf 17 = .ok (.iload_n 3, 1) := by decide +kernel
theorem dX7_markOf_18 : decode cX7_markOf 18 = .ok (.invokevirtual 113, 3) := by decide +kernel
theorem dX7_markOf_21 : decode cX7_markOf 21 = .ok (.ifCond .eq 7, 3) := by decide +kernel
theorem dX7_markOf_24 : decode cX7_markOf 24 = .ok (.iconst 1, 1) := by decide +kernel
theorem dX7_markOf_25 : decode cX7_markOf 25 = .ok (.goto 4, 3) := by decide +kernel
theorem dX7_markOf_28 : decode cX7_markOf 28 = .ok (.iconst 0, 1) := by decide +kernel
theorem dX7_markOf_29 : decode cX7_markOf 29 = .ok (.istore 4, 2) := by decide +kernel
theorem dX7_markOf_31 : decode cX7_markOf 31 = .ok (.aload_n 0, 1) := by decide +kernel
theorem dX7_markOf_32 : decode cX7_markOf 32 = .ok (.iload 4, 2) := by decide +kernel
theorem dX7_markOf_34 : decode cX7_markOf 34 = .ok (.iconst 1, 1) := by decide +kernel
theorem dX7_markOf_35 : decode cX7_markOf 35 = .ok (.iconst 1, 1) := by decide +kernel
theorem dX7_markOf_36 : decode cX7_markOf 36 = .ok (.invokevirtual 105, 3) := by decide +kernel
theorem dX7_markOf_39 : decode cX7_markOf 39 = .ok (.ifCond .eq 21, 3) := by decide +kernel
theorem dX7_markOf_42 : decode cX7_markOf 42 = .ok (.aload_n 0, 1) := by decide +kernel
theorem dX7_markOf_43 : decode cX7_markOf 43 = .ok (.getfield 41, 3) := by decide +kernel
theorem dX7_markOf_46 : decode cX7_markOf 46 = .ok (.bipush 60, 2) := by decide +kernel
theorem dX7_markOf_48 : decode cX7_markOf 48 = .ok (.iload_n 1, 1) := by decide +kernel
theorem dX7_markOf_49 : decode cX7_markOf 49 = .ok (.imul, 1) := by decide +kernel
theorem dX7_markOf_50 : decode cX7_markOf 50 = .ok (.iload_n 2, 1) := by decide +kernel
theorem dX7_markOf_51 : decode cX7_markOf 51 = .ok (.iload_n 3, 1) := by decide +kernel
theorem dX7_markOf_52 : decode cX7_markOf 52 = .ok (.invokestatic 116, 3) := by decide +kernel
theorem dX7_markOf_55 : decode cX7_markOf 55 = .ok (.iadd, 1) := by decide +kernel
theorem dX7_markOf_56 : decode cX7_markOf 56 = .ok (.iaload, 1) := by decide +kernel
theorem dX7_markOf_57 : decode cX7_markOf 57 = .ok (.goto 4, 3) := by decide +kernel
theorem dX7_markOf_60 : decode cX7_markOf 60 = .ok (.iconst 0, 1) := by decide +kernel
theorem dX7_markOf_61 : decode cX7_markOf 61 = .ok (.ireturn, 1) := by decide +kernel
theorem dX7_oldMarks_0 : decode cX7_oldMarks 0 = .ok (.iconst 0, 1) := by decide +kernel
theorem dX7_oldMarks_1 : decode cX7_oldMarks 1 = .ok (.istore_n 2, 1) := by decide +kernel
theorem dX7_oldMarks_2 : decode cX7_oldMarks 2 = .ok (.aload_n 0, 1) := by decide +kernel
theorem dX7_oldMarks_3 : decode cX7_oldMarks 3 = .ok (.iload_n 1, 1) := by decide +kernel
theorem dX7_oldMarks_4 : decode cX7_oldMarks 4 = .ok (.iconst 0, 1) := by decide +kernel
theorem dX7_oldMarks_5 : decode cX7_oldMarks 5 = .ok (.iconst 5, 1) := by decide +kernel
theorem dX7_oldMarks_6 : decode cX7_oldMarks 6 = .ok (.invokestatic 95, 3) := by decide +kernel
theorem dX7_oldMarks_9 : decode cX7_oldMarks 9 = .ok (.iconst 1, 1) := by decide +kernel
theorem dX7_oldMarks_10 : decode cX7_oldMarks 10 = .ok (.iconst 1, 1) := by decide +kernel
theorem dX7_oldMarks_11 : decode cX7_oldMarks 11 = .ok (.invokevirtual 105, 3) := by decide +kernel
theorem dX7_oldMarks_14 : decode cX7_oldMarks 14 = .ok (.istore_n 3, 1) := by decide +kernel
theorem dX7_oldMarks_15 : decode cX7_oldMarks 15 = .ok (.iconst 0, 1) := by decide +kernel
theorem dX7_oldMarks_16 : decode cX7_oldMarks 16 = .ok (.istore 4, 2) := by decide +kernel
theorem dX7_oldMarks_18 : decode cX7_oldMarks 18 = .ok (.iload_n 3, 1) := by decide +kernel
theorem dX7_oldMarks_19 : decode cX7_oldMarks 19 = .ok (.ifCond .eq 61, 3) := by decide +kernel
theorem dX7_oldMarks_22 : decode cX7_oldMarks 22 = .ok (.iload 4, 2) := by decide +kernel
theorem dX7_oldMarks_24 : decode cX7_oldMarks 24 = .ok (.bipush 60, 2) := by decide +kernel
theorem dX7_oldMarks_26 : decode cX7_oldMarks 26 = .ok (.if_icmp .ge 54, 3) := by decide +kernel
theorem dX7_oldMarks_29 : decode cX7_oldMarks 29 = .ok (.iload_n 2, 1) := by decide +kernel
theorem dX7_oldMarks_30 : decode cX7_oldMarks 30 = .ok (.aload_n 0, 1) := by decide +kernel
theorem dX7_oldMarks_31 : decode cX7_oldMarks 31 = .ok (.getfield 41, 3) := by decide +kernel
theorem dX7_oldMarks_34 : decode cX7_oldMarks 34 = .ok (.bipush 60, 2) := by decide +kernel
theorem dX7_oldMarks_36 : decode cX7_oldMarks 36 = .ok (.iload_n 1, 1) := by decide +kernel
theorem dX7_oldMarks_37 : decode cX7_oldMarks 37 = .ok (.imul, 1) := by decide +kernel
theorem dX7_oldMarks_38 : decode cX7_oldMarks 38 = .ok (.iload 4, 2) := by decide +kernel
theorem dX7_oldMarks_40 : decode cX7_oldMarks 40 = .ok (.iadd, 1) := by decide +kernel
theorem dX7_oldMarks_41 : decode cX7_oldMarks 41 = .ok (.iaload, 1) := by decide +kernel
theorem dX7_oldMarks_42 : decode cX7_oldMarks 42 = .ok (.ifCond .le 29, 3) := by decide +kernel
theorem dX7_oldMarks_45 : decode cX7_oldMarks 45 = .ok (.aload_n 0, 1) := by decide +kernel
theorem dX7_oldMarks_46 : decode cX7_oldMarks 46 = .ok (.getfield 44, 3) := by decide +kernel
theorem dX7_oldMarks_49 : decode cX7_oldMarks 49 = .ok (.bipush 60, 2) := by decide +kernel
theorem dX7_oldMarks_51 : decode cX7_oldMarks 51 = .ok (.iload_n 1, 1) := by decide +kernel
theorem dX7_oldMarks_52 : decode cX7_oldMarks 52 = .ok (.imul, 1) := by decide +kernel
theorem dX7_oldMarks_53 : decode cX7_oldMarks 53 = .ok (.iload 4, 2) := by decide +kernel
theorem dX7_oldMarks_55 : decode cX7_oldMarks 55 = .ok (.iadd, 1) := by decide +kernel
theorem dX7_oldMarks_56 : decode cX7_oldMarks 56 = .ok (.iaload, 1) := by decide +kernel
theorem dX7_oldMarks_57 : decode cX7_oldMarks 57 = .ok (.aload_n 0, 1) := by decide +kernel
theorem dX7_oldMarks_58 : decode cX7_oldMarks 58 = .ok (.getfield 22, 3) := by decide +kernel
theorem dX7_oldMarks_61 : decode cX7_oldMarks 61 = .ok (.iload 4, 2) := by decide +kernel
theorem dX7_oldMarks_63 : decode cX7_oldMarks 63 = .ok (.iaload, 1) := by decide +kernel
theorem dX7_oldMarks_64 : decode cX7_oldMarks 64 = .ok (.if_icmp .eq 7, 3) := by decide +kernel
theorem dX7_oldMarks_67 : decode cX7_oldMarks 67 = .ok (.iconst 1, 1) := by decide +kernel
theorem dX7_oldMarks_68 : decode cX7_oldMarks 68 = .ok (.goto 4, 3) := by decide +kernel
theorem dX7_oldMarks_71 : decode cX7_oldMarks 71 = .ok (.iconst 0, 1) := by decide +kernel
theorem dX7_oldMarks_72 : decode cX7_oldMarks 72 = .ok (.iadd, 1) := by decide +kernel
theorem dX7_oldMarks_73 : decode cX7_oldMarks 73 = .ok (.istore_n 2, 1) := by decide +kernel
theorem dX7_oldMarks_74 : decode cX7_oldMarks 74 = .ok (.iinc 4 1, 3) := by decide +kernel
theorem dX7_oldMarks_77 : decode cX7_oldMarks 77 = .ok (.goto (-59), 3) := by decide +kernel
theorem dX7_oldMarks_80 : decode cX7_oldMarks 80 = .ok (.iload_n 2, 1) := by decide +kernel
theorem dX7_oldMarks_81 : decode cX7_oldMarks 81 = .ok (.ireturn, 1) := by decide +kernel
theorem dX7_clashes_0 : decode cX7_clashes 0 = .ok (.iconst 0, 1) := by decide +kernel
theorem dX7_clashes_1 : decode cX7_clashes 1 = .ok (.istore_n 2, 1) := by decide +kernel
theorem dX7_clashes_2 : decode cX7_clashes 2 = .ok (.aload_n 0, 1) := by decide +kernel
theorem dX7_clashes_3 : decode cX7_clashes 3 = .ok (.iload_n 1, 1) := by decide +kernel
theorem dX7_clashes_4 : decode cX7_clashes 4 = .ok (.invokestatic 109, 3) := by decide +kernel
theorem dX7_clashes_7 : decode cX7_clashes 7 = .ok (.iconst 1, 1) := by decide +kernel
theorem dX7_clashes_8 : decode cX7_clashes 8 = .ok (.iconst 1, 1) := by decide +kernel
theorem dX7_clashes_9 : decode cX7_clashes 9 = .ok (.invokevirtual 105, 3) := by decide +kernel
theorem dX7_clashes_12 : decode cX7_clashes 12 = .ok (.istore_n 3, 1) := by decide +kernel
theorem dX7_clashes_13 : decode cX7_clashes 13 = .ok (.iconst 0, 1) := by decide +kernel
theorem dX7_clashes_14 : decode cX7_clashes 14 = .ok (.istore 4, 2) := by decide +kernel
theorem dX7_clashes_16 : decode cX7_clashes 16 = .ok (.iload_n 3, 1) := by decide +kernel
theorem dX7_clashes_17 : decode cX7_clashes 17 = .ok (.ifCond .eq 114, 3) := by decide +kernel
theorem dX7_clashes_20 : decode cX7_clashes 20 = .ok (.iload 4, 2) := by decide +kernel
theorem dX7_clashes_22 : decode cX7_clashes 22 = .ok (.aload_n 0, 1) := by decide +kernel
theorem dX7_clashes_23 : decode cX7_clashes 23 = .ok (.getfield 99, 3) := by decide +kernel
theorem dX7_clashes_26 : decode cX7_clashes 26 = .ok (.if_icmp .ge 105, 3) := by decide +kernel
theorem dX7_clashes_29 : decode cX7_clashes 29 = .ok (.iload_n 1, 1) := by decide +kernel
theorem dX7_clashes_30 : decode cX7_clashes 30 = .ok (.iload 4, 2) := by decide +kernel
theorem dX7_clashes_32 : decode cX7_clashes 32 = .ok (.invokestatic 116, 3) := by decide +kernel
theorem dX7_clashes_35 : decode cX7_clashes 35 = .ok (.istore 5, 2) := by decide +kernel
theorem dX7_clashes_37 : decode cX7_clashes 37 = .ok (.iconst 0, 1) := by decide +kernel
theorem dX7_clashes_38 : decode cX7_clashes 38 = .ok (.istore 6, 2) := by decide +kernel
theorem dX7_clashes_40 : decode cX7_clashes 40 = .ok (.iload 6, 2) := by decide +kernel
theorem dX7_clashes_42 : decode cX7_clashes 42 = .ok (.aload_n 0, 1) := by decide +kernel
theorem dX7_clashes_43 : decode cX7_clashes 43 = .ok (.getfield 19, 3) := by decide +kernel
theorem dX7_clashes_46 : decode cX7_clashes 46 = .ok (.iload 5, 2) := by decide +kernel
theorem dX7_clashes_48 : decode cX7_clashes 48 = .ok (.iaload, 1) := by decide +kernel
theorem dX7_clashes_49 : decode cX7_clashes 49 = .ok (.if_icmp .ge 76, 3) := by decide +kernel
theorem dX7_clashes_52 : decode cX7_clashes 52 = .ok (.iconst 0, 1) := by decide +kernel
theorem dX7_clashes_53 : decode cX7_clashes 53 = .ok (.istore 7, 2) := by decide +kernel
theorem dX7_clashes_55 : decode cX7_clashes 55 = .ok (.iload 7, 2) := by decide +kernel
theorem dX7_clashes_57 : decode cX7_clashes 57 = .ok (.bipush 6, 2) := by decide +kernel
theorem dX7_clashes_59 : decode cX7_clashes 59 = .ok (.if_icmp .ge 60, 3) := by decide +kernel
theorem dX7_clashes_62 : decode cX7_clashes 62 = .ok (.aload_n 0, 1) := by decide +kernel
theorem dX7_clashes_63 : decode cX7_clashes 63 = .ok (.iload 7, 2) := by decide +kernel
theorem dX7_clashes_65 : decode cX7_clashes 65 = .ok (.iload 5, 2) := by decide +kernel
theorem dX7_clashes_67 : decode cX7_clashes 67 = .ok (.iload 6, 2) := by decide +kernel
theorem dX7_clashes_69 : decode cX7_clashes 69 = .ok (.invokevirtual 148, 3) := by decide +kernel
theorem dX7_clashes_72 : decode cX7_clashes 72 = .ok (.istore 8, 2) := by decide +kernel
theorem dX7_clashes_74 : decode cX7_clashes 74 = .ok (.aload_n 0, 1) := by decide +kernel
theorem dX7_clashes_75 : decode cX7_clashes 75 = .ok (.iload 7, 2) := by decide +kernel
theorem dX7_clashes_77 : decode cX7_clashes 77 = .ok (.iconst 1, 1) := by decide +kernel
theorem dX7_clashes_78 : decode cX7_clashes 78 = .ok (.iadd, 1) := by decide +kernel
theorem dX7_clashes_79 : decode cX7_clashes 79 = .ok (.iload 5, 2) := by decide +kernel
theorem dX7_clashes_81 : decode cX7_clashes 81 = .ok (.iload 6, 2) := by decide +kernel
theorem dX7_clashes_83 : decode cX7_clashes 83 = .ok (.invokevirtual 148, 3) := by decide +kernel
theorem dX7_clashes_86 : decode cX7_clashes 86 = .ok (.istore 9, 2) := by decide +kernel
theorem dX7_clashes_88 : decode cX7_clashes 88 = .ok (.iload_n 2, 1) := by decide +kernel
theorem dX7_clashes_89 : decode cX7_clashes 89 = .ok (.iload 8, 2) := by decide +kernel
theorem dX7_clashes_91 : decode cX7_clashes 91 = .ok (.ifCond .le 19, 3) := by decide +kernel
theorem dX7_clashes_94 : decode cX7_clashes 94 = .ok (.iload 9, 2) := by decide +kernel
theorem dX7_clashes_96 : decode cX7_clashes 96 = .ok (.ifCond .le 14, 3) := by decide +kernel
theorem dX7_clashes_99 : decode cX7_clashes 99 = .ok (.iload 8, 2) := by decide +kernel
theorem dX7_clashes_101 : decode cX7_clashes 101 = .ok (.iload 9, 2) := by decide +kernel
theorem dX7_clashes_103 : decode cX7_clashes 103 = .ok (.if_icmp .eq 7, 3) := by decide +kernel
theorem dX7_clashes_106 : decode cX7_clashes 106 = .ok (.iconst 1, 1) := by decide +kernel
theorem dX7_clashes_107 : decode cX7_clashes 107 = .ok (.goto 4, 3) := by decide +kernel
theorem dX7_clashes_110 : decode cX7_clashes 110 = .ok (.iconst 0, 1) := by decide +kernel
theorem dX7_clashes_111 : decode cX7_clashes 111 = .ok (.iadd, 1) := by decide +kernel
theorem dX7_clashes_112 : decode cX7_clashes 112 = .ok (.istore_n 2, 1) := by decide +kernel
theorem dX7_clashes_113 : decode cX7_clashes 113 = .ok (.iinc 7 2, 3) := by decide +kernel
theorem dX7_clashes_116 : decode cX7_clashes 116 = .ok (.goto (-61), 3) := by decide +kernel
theorem dX7_clashes_119 : decode cX7_clashes 119 = .ok (.iinc 6 1, 3) := by decide +kernel
theorem dX7_clashes_122 : decode cX7_clashes 122 = .ok (.goto (-82), 3) := by decide +kernel
theorem dX7_clashes_125 : decode cX7_clashes 125 = .ok (.iinc 4 1, 3) := by decide +kernel
theorem dX7_clashes_128 : decode cX7_clashes 128 = .ok (.goto (-112), 3) := by decide +kernel
theorem dX7_clashes_131 : decode cX7_clashes 131 = .ok (.iload_n 2, 1) := by decide +kernel
theorem dX7_clashes_132 : decode cX7_clashes 132 = .ok (.ireturn, 1) := by decide +kernel
theorem dX7_concerts_0 : decode cX7_concerts 0 = .ok (.aload_n 0, 1) := by decide +kernel
theorem dX7_concerts_1 : decode cX7_concerts 1 = .ok (.iconst 0, 1) := by decide +kernel
theorem dX7_concerts_2 : decode cX7_concerts 2 = .ok (.putfield 92, 3) := by decide +kernel
theorem dX7_concerts_5 : decode cX7_concerts 5 = .ok (.aload_n 0, 1) := by decide +kernel
theorem dX7_concerts_6 : decode cX7_concerts 6 = .ok (.getfield 152, 3) := by decide +kernel
theorem dX7_concerts_9 : decode cX7_concerts 9 = .ok (.ireturn, 1) := by decide +kernel
end
section
/-! THE LAYER OF THIS PROOF: a world is a layout of cells from an address b on; the ints in it are a function sx_F (cell, place).
    A layout's kinds: .inl n an int array; .inr (.inl (t, n, r)) an array of references; .inr (.inr (ci, fs)) an object (none: an int, some r: a reference). -/
abbrev sx_K : Type := Nat ⊕ ((Nat × Nat × (Nat → Option Nat)) ⊕ (Nat × List (Option (Option Nat))))
abbrev sx_F : Type := Nat → Nat → Int32
abbrev sx_G : Type := ClassId × (Nat → ClassId)
def sx_fv (b : Nat) (g : Nat → Int32) : List (Option (Option Nat)) → Nat → List Value
  | [], _ => []
  | none :: r, j => .int (g j) :: sx_fv b g r (j + 1)
  | some q :: r, j => va_rf (q.map (fun k => b + k)) :: sx_fv b g r (j + 1)
def sx_e (G : sx_G) (b : Nat) (g : Nat → Int32) : sx_K → va_E
  | .inl n => .inl (G.1, n, .inl g)
  | .inr (.inl t) => .inl (G.2 t.1, t.2.1, .inr (.inr (.inr (.inr (fun i => (t.2.2 i).map (fun k => b + k))))))
  | .inr (.inr o) => .inr (o.1, sx_fv b g o.2 0)
def sx_w (G : sx_G) (b : Nat) (lay : Nat → sx_K) (n : Nat) (f : sx_F) : va_W := (List.range n).map fun k => (b + k, sx_e G b (f k) (lay k))
def sx_u (f : sx_F) (k j : Nat) (v : Int32) : sx_F := fun i => if i = k then upd (f k) j v else f i
theorem sx_u_s {f : sx_F} {k j : Nat} {v : Int32} : sx_u f k j v k = upd (f k) j v := if_pos rfl
theorem sx_u_n {f : sx_F} {k j i : Nat} {v : Int32} (h : i ≠ k) : sx_u f k j v i = f i := if_neg h
theorem sx_get {G : sx_G} {b : Nat} {lay : Nat → sx_K} {n : Nat} {f : sx_F} {k : Nat} (h : k < n) : (sx_w G b lay n f)[k]? = some (b + k, sx_e G b (f k) (lay k)) := by
  unfold sx_w
  rw [List.getElem?_map, List.getElem?_range h]
  rfl
theorem sx_len {G : sx_G} {b : Nat} {lay : Nat → sx_K} {n : Nat} {f : sx_F} : (sx_w G b lay n f).length = n := by
  unfold sx_w
  rw [List.length_map, List.length_range]
theorem sx_inv {G : sx_G} {b : Nat} {lay : Nat → sx_K} {n : Nat} {f : sx_F} {k : Nat} {q : Nat × va_E} (h : (sx_w G b lay n f)[k]? = some q) : k < n ∧ q = (b + k, sx_e G b (f k) (lay k)) := by
  have hk : k < n := by
    have h1 := (List.getElem?_eq_some_iff.mp h).1
    rw [sx_len] at h1
    exact h1
  rw [sx_get hk] at h
  exact ⟨hk, (Option.some.inj h).symm⟩
theorem sx_set {G : sx_G} {b : Nat} {lay : Nat → sx_K} {n : Nat} {f f' : sx_F} {k : Nat} {e : va_E} (h : k < n) (he : e = sx_e G b (f' k) (lay k)) (ho : ∀ j, j ≠ k → f' j = f j) : (sx_w G b lay n f).set k (b + k, e) = sx_w G b lay n f' := by
  subst he
  apply List.ext_getElem?
  intro i
  by_cases hi : i < n
  · by_cases hik : k = i
    · subst hik
      rw [sx_get hi, List.getElem?_set_self (by rw [sx_len]; exact hi)]
    · rw [List.getElem?_set_ne hik, sx_get hi, sx_get hi, ho i (fun e => hik e.symm)]
  · rw [List.getElem?_eq_none (by rw [List.length_set, sx_len]; omega), List.getElem?_eq_none (by rw [sx_len]; omega)]
theorem sx_fv_len (b : Nat) (g : Nat → Int32) : ∀ (fs : List (Option (Option Nat))) (i : Nat), (sx_fv b g fs i).length = fs.length
  | [], _ => rfl
  | none :: r, i => by rw [sx_fv, List.length_cons, List.length_cons, sx_fv_len b g r]
  | some q :: r, i => by rw [sx_fv, List.length_cons, List.length_cons, sx_fv_len b g r]
theorem sx_fv_i (b : Nat) (g : Nat → Int32) : ∀ (fs : List (Option (Option Nat))) (i j : Nat), fs[j]? = some none → (sx_fv b g fs i)[j]? = some (.int (g (i + j)))
  | [], i, j, h => by simp at h
  | none :: r, i, 0, _ => rfl
  | some q :: r, i, 0, h => by simp at h
  | none :: r, i, j + 1, h => by
    rw [sx_fv, List.getElem?_cons_succ, sx_fv_i b g r (i + 1) j (by simpa using h), show i + 1 + j = i + (j + 1) by omega]
  | some q :: r, i, j + 1, h => by
    rw [sx_fv, List.getElem?_cons_succ, sx_fv_i b g r (i + 1) j (by simpa using h), show i + 1 + j = i + (j + 1) by omega]
theorem sx_fv_q (b : Nat) (g : Nat → Int32) : ∀ (fs : List (Option (Option Nat))) (i j : Nat) (q : Option Nat), fs[j]? = some (some q) → (sx_fv b g fs i)[j]? = some (va_rf (q.map (fun k => b + k)))
  | [], i, j, q, h => by simp at h
  | none :: r, i, 0, q, h => by simp at h
  | some q0 :: r, i, 0, q, h => by
    have h1 : q0 = q := by simpa using h
    rw [h1]
    rfl
  | none :: r, i, j + 1, q, h => by rw [sx_fv, List.getElem?_cons_succ, sx_fv_q b g r (i + 1) j q (by simpa using h)]
  | some q0 :: r, i, j + 1, q, h => by rw [sx_fv, List.getElem?_cons_succ, sx_fv_q b g r (i + 1) j q (by simpa using h)]
theorem sx_fv_o (b : Nat) (g g' : Nat → Int32) : ∀ (fs : List (Option (Option Nat))) (i : Nat), (∀ j, i ≤ j → g' j = g j) → sx_fv b g' fs i = sx_fv b g fs i
  | [], _, _ => rfl
  | none :: r, i, h => by rw [sx_fv, sx_fv, h i (Nat.le_refl i), sx_fv_o b g g' r (i + 1) (fun j hj => h j (by omega))]
  | some q :: r, i, h => by rw [sx_fv, sx_fv, sx_fv_o b g g' r (i + 1) (fun j hj => h j (by omega))]
theorem sx_fv_set (b : Nat) (g : Nat → Int32) (v : Int32) : ∀ (fs : List (Option (Option Nat))) (i j : Nat), fs[j]? = some none → (sx_fv b g fs i).set j (.int v) = sx_fv b (upd g (i + j) v) fs i
  | [], i, j, h => by simp at h
  | none :: r, i, 0, _ => by
    rw [sx_fv, sx_fv, List.set_cons_zero, sx_fv_o b g (upd g (i + 0) v) r (i + 1) (fun j hj => if_neg (by omega))]
    simp [upd]
  | some q :: r, i, 0, h => by simp at h
  | none :: r, i, j + 1, h => by
    rw [sx_fv, sx_fv, List.set_cons_succ, sx_fv_set b g v r (i + 1) j (by simpa using h), show i + 1 + j = i + (j + 1) by omega]
    have e : upd g (i + (j + 1)) v i = g i := if_neg (by omega)
    rw [e]
  | some q :: r, i, j + 1, h => by
    rw [sx_fv, sx_fv, List.set_cons_succ, sx_fv_set b g v r (i + 1) j (by simpa using h), show i + 1 + j = i + (j + 1) by omega]
/-! the tables' words -/
def sx_kw : Cond → Bool
  | .fieldLinkNest .. => true
  | .methodLinkNest .. => true
  | .declares _ => true
  | .castable .. => true
  | _ => false
def sx_ws : List Cond := lw_tbl.filter goodWord
def sx_nw : List Cond := lw_tbl.filter sx_kw
theorem sx_wm {w : Cond} (i : Nat) (h : lw_tbl[i]? = some w) (hg : goodWord w = true) : w ∈ sx_ws := List.mem_filter.mpr ⟨List.mem_of_getElem? h, hg⟩
theorem sx_nm {w : Cond} (i : Nat) (h : lw_tbl[i]? = some w) (hg : sx_kw w = true) : w ∈ sx_nw := List.mem_filter.mpr ⟨List.mem_of_getElem? h, hg⟩
def sx_N (U : State) : Prop := ∀ w ∈ sx_nw, va_Nw w U
theorem sx_kw_warm {w : Cond} {s U : State} (hg : sx_kw w = true) (hW : s.WarmedH U.vm) (h : va_Nw w s) : va_Nw w U := by
  cases w with
  | fieldLinkNest a i b n d h1 => exact va_Nw.warmF hW h
  | methodLinkNest a i x h1 => exact va_Nw.warmM hW h
  | declares x => exact va_Nw.warmD hW h
  | castable a b => exact va_Nw.warmC hW h
  | _ => simp [sx_kw] at hg
theorem sx_N.warm {s U : State} (hW : s.WarmedH U.vm) (h : sx_N s) : sx_N U := fun w hw => sx_kw_warm (List.mem_filter.mp hw).2 hW (h w hw)
def sx_S (U : State) : Prop := ∀ q ∈ sx_str, ∃ a, vk_R q.1 q.2.1 q.2.2 a U
theorem sx_S.warm {s U : State} (hW : s.WarmedH U.vm) (h : sx_S s) : sx_S U := fun q hq => by
  obtain ⟨a, ha⟩ := h q hq
  exact ⟨a, vk_R.warm hW ha⟩
def sx_Z (A : Nat → Prop) (U : State) (H : Heap) : Prop := vx_Zq Bundle.tN "UNASSIGNED_STACK" Bundle.steD A U H ∧ vx_Zq Bundle.tN "SUPPRESSED_SENTINEL" Bundle.listD A U H
def sx_tys (G : sx_G) : List (ClassId × FieldType) := [(G.1, .int), (G.2 0, .object "Stavehouse$Copy"), (G.2 1, .object "Stavehouse$Desk"), (G.2 2, .array .int)]
def sx_V (D : va_G) (G : sx_G) (A : Nat → Prop) (U : State) (H : Heap) : Prop := va_K D vwCl (sx_tys G) U ∧ sx_N U ∧ sx_S U ∧ sx_Z A U H
theorem sx_V.warm {D : va_G} {G : sx_G} {A : Nat → Prop} {s U : State} {H : Heap} (hW : s.WarmedH U.vm) (h : sx_V D G A s H) : sx_V D G A U H :=
  ⟨va_K.moved hW.alike h.1, h.2.1.warm hW, h.2.2.1.warm hW, vx_Zq.moved hW.alike h.2.2.2.1, vx_Zq.moved hW.alike h.2.2.2.2⟩
theorem sx_V.kept {D : va_G} {G : sx_G} {A : Nat → Prop} {s : State} {H H1 : Heap} (h : sx_V D G A s H) (hq : ∀ a : Nat, a < H.size → ¬ A a → H1[a]? = H[a]?) : sx_V D G A s H1 :=
  ⟨h.1, h.2.1, h.2.2.1, h.2.2.2.1.kept hq, h.2.2.2.2.kept hq⟩
theorem sx_V.narrow {D : va_G} {G : sx_G} {A B : Nat → Prop} {s : State} {H : Heap} (h : sx_V D G A s H) (hAB : ∀ q, B q → A q) : sx_V D G B s H :=
  ⟨h.1, h.2.1, h.2.2.1, h.2.2.2.1.narrow hAB, h.2.2.2.2.narrow hAB⟩
/-- what a method may change: its world's cells, and those that it makes -/
def sx_A (b n sz : Nat) : Nat → Prop := fun q => (b ≤ q ∧ q < b + n) ∨ sz ≤ q
theorem sx_A.in {b n sz k : Nat} (h : k < n) : sx_A b n sz (b + k) := Or.inl ⟨Nat.le_add_right _ _, Nat.add_lt_add_left h _⟩
theorem sx_D {A : Nat → Prop} {G : sx_G} {b : Nat} {lay : Nat → sx_K} {n : Nat} {f : sx_F} (h : ∀ k, k < n → A (b + k)) : va_D A (sx_w G b lay n f) := by
  refine ⟨fun i j p q hi hj e => ?_, fun k q hk => ?_⟩
  · obtain ⟨h1, rfl⟩ := sx_inv hi
    obtain ⟨h2, rfl⟩ := sx_inv hj
    exact Nat.add_left_cancel e
  · obtain ⟨h1, rfl⟩ := sx_inv hk
    exact h k h1
/-- what holds of a method's frame while it runs -/
def sx_Cx (p : Program) (l : Launch) (s : State) (m : MethodId) (args : Array Value) (meth : Method) (c : Code) (D : va_G) (G : sx_G) (A : Nat → Prop) (cc : ByteArray) (nL : Nat) (own : String) : Prop :=
  p.tables.exec = Jvm.exec ∧ c.code = cc ∧ c.maxLocals = nL ∧ s.vm.findClass own = some m.cls ∧ (∀ w ∈ sx_ws, w.before args s = true) ∧ (∀ q, s.heap.size ≤ q → A q) ∧ meth.locks = false ∧ l.stackTraces = false ∧ sx_V D G A s s.heap
/-- the machine at pc, with these locals and this stack, in the world of u: it comes to Q -/
def sx_J {σ : Type} (wd : σ → va_W) (p : Program) (l : Launch) (e : Env) (R : Room) (s : State) (m : MethodId) (args : Array Value) (below : List Frame) (meth : Method) (c : Code) (D : va_G) (A : Nat → Prop) (nL cells slots : Nat) (Q : State → Prop) (u : σ) (pc : Nat) (lv : List (Nat × Value)) (st : List Value) : Prop :=
  ∀ (H : Heap) (locs : List Loc) (ls : Array Slot), va_P D vwCl (wd u) H → va_S A s.heap H locs → lv_has ls nL lv → W p l e R s m args below meth c H locs cells slots Q (F0 m pc ls st)
section SX
variable {σ : Type} {wd : σ → va_W} {p : Program} {l : Launch} {e : Env} {R : Room} {s : State} {m : MethodId} {args : Array Value} {below : List Frame} {meth : Method} {c : Code} {D : va_G} {G : sx_G} {A : Nat → Prop} {cc : ByteArray} {nL cells slots : Nat} {own : String} {Q : State → Prop} {u : σ} {pc : Nat} {lv : List (Nat × Value)} {st : List Value}
theorem sx_widen {k n : Nat} (h1 : cells ≤ k) (h2 : slots ≤ n) (kk : sx_J wd p l e R s m args below meth c D A nL k n Q u pc lv st) : sx_J wd p l e R s m args below meth c D A nL cells slots Q (u) (pc) (lv) (st) := fun H locs ls hP hS hl => W.widen h1 h2 (kk H locs ls hP hS hl)
theorem sx_sub {lv' : List (Nat × Value)} (ks : List Nat) (h : lv_pick lv ks = lv') (k : sx_J wd p l e R s m args below meth c D A nL cells slots Q (u) (pc) (lv') (st)) : sx_J wd p l e R s m args below meth c D A nL cells slots Q (u) (pc) (lv) (st) := fun H locs ls hP hS hl => k H locs ls hP hS (lv_sub hl ks h)
theorem sx_topi {x : Int32} (k : ∀ y : Int32, y = x → sx_J wd p l e R s m args below meth c D A nL cells slots Q (u) (pc) (lv) (.int y :: st)) : sx_J wd p l e R s m args below meth c D A nL cells slots Q (u) (pc) (lv) (.int x :: st) := k x rfl
theorem sx_iconst (C : sx_Cx p l s m args meth c D G A cc nL own) {n : Int} (d : decode cc pc = .ok (.iconst n, 1)) (v : Int32) (hv : Int32.ofInt n = v) (q : Nat) (hq : pc + 1 = q) (k : sx_J wd p l e R s m args below meth c D A nL cells slots Q (u) (q) (lv) (.int v :: st)) : sx_J wd p l e R s m args below meth c D A nL cells slots Q (u) (pc) (lv) (st) := by
  subst hq
  exact fun H locs ls hP hS hl => lv_iconst C.1 C.2.1 d hv (k H locs ls hP hS hl)
theorem sx_bipush (C : sx_Cx p l s m args meth c D G A cc nL own) {n : Int} (d : decode cc pc = .ok (.bipush n, 2)) (v : Int32) (hv : (Int8.ofInt n).toInt32 = v) (q : Nat) (hq : pc + 2 = q) (k : sx_J wd p l e R s m args below meth c D A nL cells slots Q (u) (q) (lv) (.int v :: st)) : sx_J wd p l e R s m args below meth c D A nL cells slots Q (u) (pc) (lv) (st) := by
  subst hq
  exact fun H locs ls hP hS hl => lv_bipush C.1 C.2.1 d hv (k H locs ls hP hS hl)
theorem sx_sipush (C : sx_Cx p l s m args meth c D G A cc nL own) {n : Int} (d : decode cc pc = .ok (.sipush n, 3)) (v : Int32) (hv : (Int16.ofInt n).toInt32 = v) (q : Nat) (hq : pc + 3 = q) (k : sx_J wd p l e R s m args below meth c D A nL cells slots Q (u) (q) (lv) (.int v :: st)) : sx_J wd p l e R s m args below meth c D A nL cells slots Q (u) (pc) (lv) (st) := by
  subst hq
  exact fun H locs ls hP hS hl => lv_sipush C.1 C.2.1 d hv (k H locs ls hP hS hl)
theorem sx_iload_n (C : sx_Cx p l s m args meth c D G A cc nL own) {kk : Fin 4} {x : Int32} (d : decode cc pc = .ok (.iload_n kk, 1)) (n i : Nat) (hn : (kk : Nat) = n) (hi : lv[i]? = some (n, .int x)) (q : Nat) (hq : pc + 1 = q) (k : sx_J wd p l e R s m args below meth c D A nL cells slots Q (u) (q) (lv) (.int x :: st)) : sx_J wd p l e R s m args below meth c D A nL cells slots Q (u) (pc) (lv) (st) := by
  subst hq
  exact fun H locs ls hP hS hl => lv_iload_n C.1 C.2.1 d hn (lv_at hl i hi) (k H locs ls hP hS hl)
theorem sx_iload (C : sx_Cx p l s m args meth c D G A cc nL own) {n : Nat} {x : Int32} (d : decode cc pc = .ok (.iload n, 2)) (i : Nat) (hi : lv[i]? = some (n, .int x)) (q : Nat) (hq : pc + 2 = q) (k : sx_J wd p l e R s m args below meth c D A nL cells slots Q (u) (q) (lv) (.int x :: st)) : sx_J wd p l e R s m args below meth c D A nL cells slots Q (u) (pc) (lv) (st) := by
  subst hq
  exact fun H locs ls hP hS hl => lv_iload C.1 C.2.1 d (lv_at hl i hi) (k H locs ls hP hS hl)
theorem sx_aload_n (C : sx_Cx p l s m args meth c D G A cc nL own) {kk : Fin 4} {x : Nat} (d : decode cc pc = .ok (.aload_n kk, 1)) (n i : Nat) (hn : (kk : Nat) = n) (hi : lv[i]? = some (n, .ref x)) (q : Nat) (hq : pc + 1 = q) (k : sx_J wd p l e R s m args below meth c D A nL cells slots Q (u) (q) (lv) (.ref x :: st)) : sx_J wd p l e R s m args below meth c D A nL cells slots Q (u) (pc) (lv) (st) := by
  subst hq
  exact fun H locs ls hP hS hl => lv_aload_n C.1 C.2.1 d hn (lv_at hl i hi) (k H locs ls hP hS hl)
theorem sx_aload (C : sx_Cx p l s m args meth c D G A cc nL own) {n : Nat} {x : Nat} (d : decode cc pc = .ok (.aload n, 2)) (i : Nat) (hi : lv[i]? = some (n, .ref x)) (q : Nat) (hq : pc + 2 = q) (k : sx_J wd p l e R s m args below meth c D A nL cells slots Q (u) (q) (lv) (.ref x :: st)) : sx_J wd p l e R s m args below meth c D A nL cells slots Q (u) (pc) (lv) (st) := by
  subst hq
  exact fun H locs ls hP hS hl => lv_aload C.1 C.2.1 d (lv_at hl i hi) (k H locs ls hP hS hl)
theorem sx_iadd (C : sx_Cx p l s m args meth c D G A cc nL own) {x y : Int32} (d : decode cc pc = .ok (.iadd, 1))  (q : Nat) (hq : pc + 1 = q) (k : sx_J wd p l e R s m args below meth c D A nL cells slots Q (u) (q) (lv) (.int (x + y) :: st)) : sx_J wd p l e R s m args below meth c D A nL cells slots Q (u) (pc) (lv) (.int y :: .int x :: st) := by
  subst hq
  exact fun H locs ls hP hS hl => lv_iadd C.1 C.2.1 d (k H locs ls hP hS hl)
theorem sx_isub (C : sx_Cx p l s m args meth c D G A cc nL own) {x y : Int32} (d : decode cc pc = .ok (.isub, 1))  (q : Nat) (hq : pc + 1 = q) (k : sx_J wd p l e R s m args below meth c D A nL cells slots Q (u) (q) (lv) (.int (x - y) :: st)) : sx_J wd p l e R s m args below meth c D A nL cells slots Q (u) (pc) (lv) (.int y :: .int x :: st) := by
  subst hq
  exact fun H locs ls hP hS hl => lv_isub C.1 C.2.1 d (k H locs ls hP hS hl)
theorem sx_imul (C : sx_Cx p l s m args meth c D G A cc nL own) {x y : Int32} (d : decode cc pc = .ok (.imul, 1))  (q : Nat) (hq : pc + 1 = q) (k : sx_J wd p l e R s m args below meth c D A nL cells slots Q (u) (q) (lv) (.int (x * y) :: st)) : sx_J wd p l e R s m args below meth c D A nL cells slots Q (u) (pc) (lv) (.int y :: .int x :: st) := by
  subst hq
  exact fun H locs ls hP hS hl => lv_imul C.1 C.2.1 d (k H locs ls hP hS hl)
theorem sx_iand (C : sx_Cx p l s m args meth c D G A cc nL own) {x y : Int32} (d : decode cc pc = .ok (.iand, 1))  (q : Nat) (hq : pc + 1 = q) (k : sx_J wd p l e R s m args below meth c D A nL cells slots Q (u) (q) (lv) (.int (x &&& y) :: st)) : sx_J wd p l e R s m args below meth c D A nL cells slots Q (u) (pc) (lv) (.int y :: .int x :: st) := by
  subst hq
  exact fun H locs ls hP hS hl => lv_iand C.1 C.2.1 d (k H locs ls hP hS hl)
theorem sx_ior (C : sx_Cx p l s m args meth c D G A cc nL own) {x y : Int32} (d : decode cc pc = .ok (.ior, 1))  (q : Nat) (hq : pc + 1 = q) (k : sx_J wd p l e R s m args below meth c D A nL cells slots Q (u) (q) (lv) (.int (x ||| y) :: st)) : sx_J wd p l e R s m args below meth c D A nL cells slots Q (u) (pc) (lv) (.int y :: .int x :: st) := by
  subst hq
  exact fun H locs ls hP hS hl => lv_ior C.1 C.2.1 d (k H locs ls hP hS hl)
theorem sx_ixor (C : sx_Cx p l s m args meth c D G A cc nL own) {x y : Int32} (d : decode cc pc = .ok (.ixor, 1))  (q : Nat) (hq : pc + 1 = q) (k : sx_J wd p l e R s m args below meth c D A nL cells slots Q (u) (q) (lv) (.int (x ^^^ y) :: st)) : sx_J wd p l e R s m args below meth c D A nL cells slots Q (u) (pc) (lv) (.int y :: .int x :: st) := by
  subst hq
  exact fun H locs ls hP hS hl => lv_ixor C.1 C.2.1 d (k H locs ls hP hS hl)
theorem sx_ishl (C : sx_Cx p l s m args meth c D G A cc nL own) {x y : Int32} (d : decode cc pc = .ok (.ishl, 1))  (q : Nat) (hq : pc + 1 = q) (k : sx_J wd p l e R s m args below meth c D A nL cells slots Q (u) (q) (lv) (.int (x <<< (y &&& 31)) :: st)) : sx_J wd p l e R s m args below meth c D A nL cells slots Q (u) (pc) (lv) (.int y :: .int x :: st) := by
  subst hq
  exact fun H locs ls hP hS hl => lv_ishl C.1 C.2.1 d (k H locs ls hP hS hl)
theorem sx_ishr (C : sx_Cx p l s m args meth c D G A cc nL own) {x y : Int32} (d : decode cc pc = .ok (.ishr, 1))  (q : Nat) (hq : pc + 1 = q) (k : sx_J wd p l e R s m args below meth c D A nL cells slots Q (u) (q) (lv) (.int (x >>> (y &&& 31)) :: st)) : sx_J wd p l e R s m args below meth c D A nL cells slots Q (u) (pc) (lv) (.int y :: .int x :: st) := by
  subst hq
  exact fun H locs ls hP hS hl => lv_ishr C.1 C.2.1 d (k H locs ls hP hS hl)
theorem sx_idiv (C : sx_Cx p l s m args meth c D G A cc nL own) {x y : Int32} (d : decode cc pc = .ok (.idiv, 1)) (hne : ¬ y = 0) (q : Nat) (hq : pc + 1 = q) (k : sx_J wd p l e R s m args below meth c D A nL cells slots Q (u) (q) (lv) (.int (x / y) :: st)) : sx_J wd p l e R s m args below meth c D A nL cells slots Q (u) (pc) (lv) (.int y :: .int x :: st) := by
  subst hq
  exact fun H locs ls hP hS hl => lv_idiv C.1 C.2.1 d hne (k H locs ls hP hS hl)
theorem sx_irem (C : sx_Cx p l s m args meth c D G A cc nL own) {x y : Int32} (d : decode cc pc = .ok (.irem, 1)) (hne : ¬ y = 0) (q : Nat) (hq : pc + 1 = q) (k : sx_J wd p l e R s m args below meth c D A nL cells slots Q (u) (q) (lv) (.int (x - x / y * y) :: st)) : sx_J wd p l e R s m args below meth c D A nL cells slots Q (u) (pc) (lv) (.int y :: .int x :: st) := by
  subst hq
  exact fun H locs ls hP hS hl => lv_irem C.1 C.2.1 d hne (k H locs ls hP hS hl)
theorem sx_ineg (C : sx_Cx p l s m args meth c D G A cc nL own) {x : Int32} (d : decode cc pc = .ok (.ineg, 1))  (q : Nat) (hq : pc + 1 = q) (k : sx_J wd p l e R s m args below meth c D A nL cells slots Q (u) (q) (lv) (.int (-x) :: st)) : sx_J wd p l e R s m args below meth c D A nL cells slots Q (u) (pc) (lv) (.int x :: st) := by
  subst hq
  exact fun H locs ls hP hS hl => lv_ineg C.1 C.2.1 d (k H locs ls hP hS hl)
theorem sx_dup (C : sx_Cx p l s m args meth c D G A cc nL own) {va : Value} (d : decode cc pc = .ok (.dup, 1)) (hva : va.category = 1) (q : Nat) (hq : pc + 1 = q) (k : sx_J wd p l e R s m args below meth c D A nL cells slots Q (u) (q) (lv) (va :: va :: st)) : sx_J wd p l e R s m args below meth c D A nL cells slots Q (u) (pc) (lv) (va :: st) := by
  subst hq
  exact fun H locs ls hP hS hl => lv_dup C.1 C.2.1 d hva (k H locs ls hP hS hl)
theorem sx_pop (C : sx_Cx p l s m args meth c D G A cc nL own) {va : Value} (d : decode cc pc = .ok (.pop, 1)) (hva : va.category = 1) (q : Nat) (hq : pc + 1 = q) (k : sx_J wd p l e R s m args below meth c D A nL cells slots Q (u) (q) (lv) (st)) : sx_J wd p l e R s m args below meth c D A nL cells slots Q (u) (pc) (lv) (va :: st) := by
  subst hq
  exact fun H locs ls hP hS hl => lv_pop C.1 C.2.1 d hva (k H locs ls hP hS hl)
theorem sx_dup2 (C : sx_Cx p l s m args meth c D G A cc nL own) {va vb : Value} (d : decode cc pc = .ok (.dup2, 1)) (hva : va.category = 1) (hvb : vb.category = 1) (q : Nat) (hq : pc + 1 = q) (k : sx_J wd p l e R s m args below meth c D A nL cells slots Q (u) (q) (lv) (va :: vb :: va :: vb :: st)) : sx_J wd p l e R s m args below meth c D A nL cells slots Q (u) (pc) (lv) (va :: vb :: st) := by
  subst hq
  exact fun H locs ls hP hS hl => lv_dup2_11 C.1 C.2.1 d hva hvb (k H locs ls hP hS hl)
theorem sx_dup_x1 (C : sx_Cx p l s m args meth c D G A cc nL own) {va vb : Value} (d : decode cc pc = .ok (.dup_x1, 1)) (hva : va.category = 1) (hvb : vb.category = 1) (q : Nat) (hq : pc + 1 = q) (k : sx_J wd p l e R s m args below meth c D A nL cells slots Q (u) (q) (lv) (va :: vb :: va :: st)) : sx_J wd p l e R s m args below meth c D A nL cells slots Q (u) (pc) (lv) (va :: vb :: st) := by
  subst hq
  exact fun H locs ls hP hS hl => lv_dup_x1 C.1 C.2.1 d hva hvb (k H locs ls hP hS hl)
theorem sx_ldci (C : sx_Cx p l s m args meth c D G A cc nL own) {index : Nat} (d : decode cc pc = .ok (.ldc index, 2)) (v : Int32) (hc : Cond.constant own index v ∈ sx_ws) (q : Nat) (hq : pc + 2 = q) (k : sx_J wd p l e R s m args below meth c D A nL cells slots Q (u) (q) (lv) (.int v :: st)) : sx_J wd p l e R s m args below meth c D A nL cells slots Q (u) (pc) (lv) (st) := by
  subst hq
  exact fun H locs ls hP hS hl => lv_ldc C.1 C.2.1 C.2.2.2.1 (C.2.2.2.2.1 _ hc) d (k H locs ls hP hS hl)
theorem sx_istore_n (C : sx_Cx p l s m args meth c D G A cc nL own) {kk : Fin 4} {x : Int32} (d : decode cc pc = .ok (.istore_n kk, 1)) (n : Nat) (hn : (kk : Nat) = n) (lv' : List (Nat × Value)) (hlt : n < nL) (hl' : (n, Value.int x) :: lv.filter (fun q => !(q.1 == n) && !(q.1 + 1 == n && q.2.category == 2)) = lv') (q : Nat) (hq : pc + 1 = q) (k : sx_J wd p l e R s m args below meth c D A nL cells slots Q (u) (q) (lv') (st)) : sx_J wd p l e R s m args below meth c D A nL cells slots Q (u) (pc) (lv) (.int x :: st) := by
  subst hq
  exact fun H locs ls hP hS hl => lv_istore_n C.1 C.2.1 d hn hl hlt hl' (fun ls' h => k H locs ls' hP hS h)
theorem sx_istore (C : sx_Cx p l s m args meth c D G A cc nL own) {n : Nat} {x : Int32} (d : decode cc pc = .ok (.istore n, 2)) (lv' : List (Nat × Value)) (hlt : n < nL) (hl' : (n, Value.int x) :: lv.filter (fun q => !(q.1 == n) && !(q.1 + 1 == n && q.2.category == 2)) = lv') (q : Nat) (hq : pc + 2 = q) (k : sx_J wd p l e R s m args below meth c D A nL cells slots Q (u) (q) (lv') (st)) : sx_J wd p l e R s m args below meth c D A nL cells slots Q (u) (pc) (lv) (.int x :: st) := by
  subst hq
  exact fun H locs ls hP hS hl => lv_istore C.1 C.2.1 d hl hlt hl' (fun ls' h => k H locs ls' hP hS h)
theorem sx_astore_n (C : sx_Cx p l s m args meth c D G A cc nL own) {kk : Fin 4} {x : Nat} (d : decode cc pc = .ok (.astore_n kk, 1)) (n : Nat) (hn : (kk : Nat) = n) (lv' : List (Nat × Value)) (hlt : n < nL) (hl' : (n, Value.ref x) :: lv.filter (fun q => !(q.1 == n) && !(q.1 + 1 == n && q.2.category == 2)) = lv') (q : Nat) (hq : pc + 1 = q) (k : sx_J wd p l e R s m args below meth c D A nL cells slots Q (u) (q) (lv') (st)) : sx_J wd p l e R s m args below meth c D A nL cells slots Q (u) (pc) (lv) (.ref x :: st) := by
  subst hq
  exact fun H locs ls hP hS hl => lv_astore_n C.1 C.2.1 d hn hl hlt hl' (fun ls' h => k H locs ls' hP hS h)
theorem sx_astore (C : sx_Cx p l s m args meth c D G A cc nL own) {n : Nat} {x : Nat} (d : decode cc pc = .ok (.astore n, 2)) (lv' : List (Nat × Value)) (hlt : n < nL) (hl' : (n, Value.ref x) :: lv.filter (fun q => !(q.1 == n) && !(q.1 + 1 == n && q.2.category == 2)) = lv') (q : Nat) (hq : pc + 2 = q) (k : sx_J wd p l e R s m args below meth c D A nL cells slots Q (u) (q) (lv') (st)) : sx_J wd p l e R s m args below meth c D A nL cells slots Q (u) (pc) (lv) (.ref x :: st) := by
  subst hq
  exact fun H locs ls hP hS hl => lv_astore C.1 C.2.1 d hl hlt hl' (fun ls' h => k H locs ls' hP hS h)
theorem sx_iinc (C : sx_Cx p l s m args meth c D G A cc nL own) {n : Nat} {z : Int} {x : Int32} (d : decode cc pc = .ok (.iinc n z, 3)) (i : Nat) (hi : lv[i]? = some (n, .int x)) (v : Int32) (hv : x + Int32.ofInt z = v) (lv' : List (Nat × Value)) (hlt : n < nL) (hl' : (n, Value.int v) :: lv.filter (fun q => !(q.1 == n) && !(q.1 + 1 == n && q.2.category == 2)) = lv') (q : Nat) (hq : pc + 3 = q) (k : sx_J wd p l e R s m args below meth c D A nL cells slots Q (u) (q) (lv') (st)) : sx_J wd p l e R s m args below meth c D A nL cells slots Q (u) (pc) (lv) (st) := by
  subst hq
  exact fun H locs ls hP hS hl => lv_iinc C.1 C.2.1 d hl hi hv hlt hl' (fun ls' h => k H locs ls' hP hS h)
theorem sx_icmp_eq (C : sx_Cx p l s m args meth c D G A cc nL own) {x y : Int32} {off : Int} (d : decode cc pc = .ok (.if_icmp .eq off, 3)) (tgt q : Nat) (ht : (pc : Int) + off = (tgt : Int)) (hq : pc + 3 = q) (kt : x = y → sx_J wd p l e R s m args below meth c D A nL cells slots Q (u) (tgt) (lv) (st)) (kf : ¬ x = y → sx_J wd p l e R s m args below meth c D A nL cells slots Q (u) (q) (lv) (st)) : sx_J wd p l e R s m args below meth c D A nL cells slots Q (u) (pc) (lv) (.int y :: .int x :: st) := by
  subst hq
  exact fun H locs ls hP hS hl => lv_icmp_eq C.1 C.2.1 d ht (fun h => kt h H locs ls hP hS hl) (fun h => kf h H locs ls hP hS hl)
theorem sx_if_eq (C : sx_Cx p l s m args meth c D G A cc nL own) {x : Int32} {off : Int} (d : decode cc pc = .ok (.ifCond .eq off, 3)) (tgt q : Nat) (ht : (pc : Int) + off = (tgt : Int)) (hq : pc + 3 = q) (kt : x = 0 → sx_J wd p l e R s m args below meth c D A nL cells slots Q (u) (tgt) (lv) (st)) (kf : ¬ x = 0 → sx_J wd p l e R s m args below meth c D A nL cells slots Q (u) (q) (lv) (st)) : sx_J wd p l e R s m args below meth c D A nL cells slots Q (u) (pc) (lv) (.int x :: st) := by
  subst hq
  exact fun H locs ls hP hS hl => lv_if_eq C.1 C.2.1 d ht (fun h => kt h H locs ls hP hS hl) (fun h => kf h H locs ls hP hS hl)
theorem sx_icmp_ne (C : sx_Cx p l s m args meth c D G A cc nL own) {x y : Int32} {off : Int} (d : decode cc pc = .ok (.if_icmp .ne off, 3)) (tgt q : Nat) (ht : (pc : Int) + off = (tgt : Int)) (hq : pc + 3 = q) (kt : ¬ x = y → sx_J wd p l e R s m args below meth c D A nL cells slots Q (u) (tgt) (lv) (st)) (kf : x = y → sx_J wd p l e R s m args below meth c D A nL cells slots Q (u) (q) (lv) (st)) : sx_J wd p l e R s m args below meth c D A nL cells slots Q (u) (pc) (lv) (.int y :: .int x :: st) := by
  subst hq
  exact fun H locs ls hP hS hl => lv_icmp_ne C.1 C.2.1 d ht (fun h => kt h H locs ls hP hS hl) (fun h => kf h H locs ls hP hS hl)
theorem sx_if_ne (C : sx_Cx p l s m args meth c D G A cc nL own) {x : Int32} {off : Int} (d : decode cc pc = .ok (.ifCond .ne off, 3)) (tgt q : Nat) (ht : (pc : Int) + off = (tgt : Int)) (hq : pc + 3 = q) (kt : ¬ x = 0 → sx_J wd p l e R s m args below meth c D A nL cells slots Q (u) (tgt) (lv) (st)) (kf : x = 0 → sx_J wd p l e R s m args below meth c D A nL cells slots Q (u) (q) (lv) (st)) : sx_J wd p l e R s m args below meth c D A nL cells slots Q (u) (pc) (lv) (.int x :: st) := by
  subst hq
  exact fun H locs ls hP hS hl => lv_if_ne C.1 C.2.1 d ht (fun h => kt h H locs ls hP hS hl) (fun h => kf h H locs ls hP hS hl)
theorem sx_icmp_lt (C : sx_Cx p l s m args meth c D G A cc nL own) {x y : Int32} {off : Int} (d : decode cc pc = .ok (.if_icmp .lt off, 3)) (tgt q : Nat) (ht : (pc : Int) + off = (tgt : Int)) (hq : pc + 3 = q) (kt : x < y → sx_J wd p l e R s m args below meth c D A nL cells slots Q (u) (tgt) (lv) (st)) (kf : ¬ x < y → sx_J wd p l e R s m args below meth c D A nL cells slots Q (u) (q) (lv) (st)) : sx_J wd p l e R s m args below meth c D A nL cells slots Q (u) (pc) (lv) (.int y :: .int x :: st) := by
  subst hq
  exact fun H locs ls hP hS hl => lv_icmp_lt C.1 C.2.1 d ht (fun h => kt h H locs ls hP hS hl) (fun h => kf h H locs ls hP hS hl)
theorem sx_if_lt (C : sx_Cx p l s m args meth c D G A cc nL own) {x : Int32} {off : Int} (d : decode cc pc = .ok (.ifCond .lt off, 3)) (tgt q : Nat) (ht : (pc : Int) + off = (tgt : Int)) (hq : pc + 3 = q) (kt : x < 0 → sx_J wd p l e R s m args below meth c D A nL cells slots Q (u) (tgt) (lv) (st)) (kf : ¬ x < 0 → sx_J wd p l e R s m args below meth c D A nL cells slots Q (u) (q) (lv) (st)) : sx_J wd p l e R s m args below meth c D A nL cells slots Q (u) (pc) (lv) (.int x :: st) := by
  subst hq
  exact fun H locs ls hP hS hl => lv_if_lt C.1 C.2.1 d ht (fun h => kt h H locs ls hP hS hl) (fun h => kf h H locs ls hP hS hl)
theorem sx_icmp_ge (C : sx_Cx p l s m args meth c D G A cc nL own) {x y : Int32} {off : Int} (d : decode cc pc = .ok (.if_icmp .ge off, 3)) (tgt q : Nat) (ht : (pc : Int) + off = (tgt : Int)) (hq : pc + 3 = q) (kt : y ≤ x → sx_J wd p l e R s m args below meth c D A nL cells slots Q (u) (tgt) (lv) (st)) (kf : ¬ y ≤ x → sx_J wd p l e R s m args below meth c D A nL cells slots Q (u) (q) (lv) (st)) : sx_J wd p l e R s m args below meth c D A nL cells slots Q (u) (pc) (lv) (.int y :: .int x :: st) := by
  subst hq
  exact fun H locs ls hP hS hl => lv_icmp_ge C.1 C.2.1 d ht (fun h => kt h H locs ls hP hS hl) (fun h => kf h H locs ls hP hS hl)
theorem sx_if_ge (C : sx_Cx p l s m args meth c D G A cc nL own) {x : Int32} {off : Int} (d : decode cc pc = .ok (.ifCond .ge off, 3)) (tgt q : Nat) (ht : (pc : Int) + off = (tgt : Int)) (hq : pc + 3 = q) (kt : 0 ≤ x → sx_J wd p l e R s m args below meth c D A nL cells slots Q (u) (tgt) (lv) (st)) (kf : ¬ 0 ≤ x → sx_J wd p l e R s m args below meth c D A nL cells slots Q (u) (q) (lv) (st)) : sx_J wd p l e R s m args below meth c D A nL cells slots Q (u) (pc) (lv) (.int x :: st) := by
  subst hq
  exact fun H locs ls hP hS hl => lv_if_ge C.1 C.2.1 d ht (fun h => kt h H locs ls hP hS hl) (fun h => kf h H locs ls hP hS hl)
theorem sx_icmp_gt (C : sx_Cx p l s m args meth c D G A cc nL own) {x y : Int32} {off : Int} (d : decode cc pc = .ok (.if_icmp .gt off, 3)) (tgt q : Nat) (ht : (pc : Int) + off = (tgt : Int)) (hq : pc + 3 = q) (kt : y < x → sx_J wd p l e R s m args below meth c D A nL cells slots Q (u) (tgt) (lv) (st)) (kf : ¬ y < x → sx_J wd p l e R s m args below meth c D A nL cells slots Q (u) (q) (lv) (st)) : sx_J wd p l e R s m args below meth c D A nL cells slots Q (u) (pc) (lv) (.int y :: .int x :: st) := by
  subst hq
  exact fun H locs ls hP hS hl => lv_icmp_gt C.1 C.2.1 d ht (fun h => kt h H locs ls hP hS hl) (fun h => kf h H locs ls hP hS hl)
theorem sx_if_gt (C : sx_Cx p l s m args meth c D G A cc nL own) {x : Int32} {off : Int} (d : decode cc pc = .ok (.ifCond .gt off, 3)) (tgt q : Nat) (ht : (pc : Int) + off = (tgt : Int)) (hq : pc + 3 = q) (kt : 0 < x → sx_J wd p l e R s m args below meth c D A nL cells slots Q (u) (tgt) (lv) (st)) (kf : ¬ 0 < x → sx_J wd p l e R s m args below meth c D A nL cells slots Q (u) (q) (lv) (st)) : sx_J wd p l e R s m args below meth c D A nL cells slots Q (u) (pc) (lv) (.int x :: st) := by
  subst hq
  exact fun H locs ls hP hS hl => lv_if_gt C.1 C.2.1 d ht (fun h => kt h H locs ls hP hS hl) (fun h => kf h H locs ls hP hS hl)
theorem sx_icmp_le (C : sx_Cx p l s m args meth c D G A cc nL own) {x y : Int32} {off : Int} (d : decode cc pc = .ok (.if_icmp .le off, 3)) (tgt q : Nat) (ht : (pc : Int) + off = (tgt : Int)) (hq : pc + 3 = q) (kt : x ≤ y → sx_J wd p l e R s m args below meth c D A nL cells slots Q (u) (tgt) (lv) (st)) (kf : ¬ x ≤ y → sx_J wd p l e R s m args below meth c D A nL cells slots Q (u) (q) (lv) (st)) : sx_J wd p l e R s m args below meth c D A nL cells slots Q (u) (pc) (lv) (.int y :: .int x :: st) := by
  subst hq
  exact fun H locs ls hP hS hl => lv_icmp_le C.1 C.2.1 d ht (fun h => kt h H locs ls hP hS hl) (fun h => kf h H locs ls hP hS hl)
theorem sx_if_le (C : sx_Cx p l s m args meth c D G A cc nL own) {x : Int32} {off : Int} (d : decode cc pc = .ok (.ifCond .le off, 3)) (tgt q : Nat) (ht : (pc : Int) + off = (tgt : Int)) (hq : pc + 3 = q) (kt : x ≤ 0 → sx_J wd p l e R s m args below meth c D A nL cells slots Q (u) (tgt) (lv) (st)) (kf : ¬ x ≤ 0 → sx_J wd p l e R s m args below meth c D A nL cells slots Q (u) (q) (lv) (st)) : sx_J wd p l e R s m args below meth c D A nL cells slots Q (u) (pc) (lv) (.int x :: st) := by
  subst hq
  exact fun H locs ls hP hS hl => lv_if_le C.1 C.2.1 d ht (fun h => kt h H locs ls hP hS hl) (fun h => kf h H locs ls hP hS hl)
theorem sx_goto (C : sx_Cx p l s m args meth c D G A cc nL own) {off : Int} (d : decode cc pc = .ok (.goto off, 3)) (tgt : Nat) (ht : (pc : Int) + off = (tgt : Int)) (k : sx_J wd p l e R s m args below meth c D A nL cells slots Q (u) (tgt) (lv) (st)) : sx_J wd p l e R s m args below meth c D A nL cells slots Q (u) (pc) (lv) (st) := fun H locs ls hP hS hl => lv_goto C.1 C.2.1 d ht (k H locs ls hP hS hl)
theorem sx_mmax (C : sx_Cx p l s m args meth c D G A cc nL own) {index : Nat} {x y : Int32} (d : decode cc pc = .ok (.invokestatic index, 3)) (hlink : Cond.methodLink own index Lib.Math.max.name ∈ sx_ws) (hstat : Cond.static Lib.Math.max.name ∈ sx_ws) (hini : Cond.initialized "java/lang/Math" ∈ sx_ws) (hcode : Cond.code Lib.Math.max.name Lib.Math.max.code 2 (some .int) ∈ sx_ws) (hR : 1 ≤ R.frames ∧ (st.map fun v => v.category).sum + 13 ≤ R.locals ∧ cells ≤ R.cells ∧ slots ≤ R.slots) (q : Nat) (hq : pc + 3 = q) (k : sx_J wd p l e R s m args below meth c D A nL cells slots Q (u) (q) (lv) (.int (if x < y then y else x) :: st)) : sx_J wd p l e R s m args below meth c D A nL cells slots Q (u) (pc) (lv) (.int y :: .int x :: st) := by
  subst hq
  exact fun H locs ls hP hS hl => va_mmax C.1 C.2.1 (C.2.2.1.trans hl.1.symm) C.2.2.2.1 (C.2.2.2.2.1 _ hlink) (C.2.2.2.2.1 _ hstat) (C.2.2.2.2.1 _ hini) (C.2.2.2.2.1 _ hcode) hR.1 hR.2.1 hR.2.2.1 hR.2.2.2 d (k H locs ls hP hS hl)
theorem sx_mmin (C : sx_Cx p l s m args meth c D G A cc nL own) {index : Nat} {x y : Int32} (d : decode cc pc = .ok (.invokestatic index, 3)) (hlink : Cond.methodLink own index Lib.Math.min.name ∈ sx_ws) (hstat : Cond.static Lib.Math.min.name ∈ sx_ws) (hini : Cond.initialized "java/lang/Math" ∈ sx_ws) (hcode : Cond.code Lib.Math.min.name Lib.Math.min.code 2 (some .int) ∈ sx_ws) (hR : 1 ≤ R.frames ∧ (st.map fun v => v.category).sum + 13 ≤ R.locals ∧ cells ≤ R.cells ∧ slots ≤ R.slots) (q : Nat) (hq : pc + 3 = q) (k : sx_J wd p l e R s m args below meth c D A nL cells slots Q (u) (q) (lv) (.int (if y < x then y else x) :: st)) : sx_J wd p l e R s m args below meth c D A nL cells slots Q (u) (pc) (lv) (.int y :: .int x :: st) := by
  subst hq
  exact fun H locs ls hP hS hl => va_mmin C.1 C.2.1 (C.2.2.1.trans hl.1.symm) C.2.2.2.1 (C.2.2.2.2.1 _ hlink) (C.2.2.2.2.1 _ hstat) (C.2.2.2.2.1 _ hini) (C.2.2.2.2.1 _ hcode) hR.1 hR.2.1 hR.2.2.1 hR.2.2.2 d (k H locs ls hP hS hl)
end SX

/-! fields and arrays of a world -/
section SY
variable {p : Program} {l : Launch} {e : Env} {R : Room} {s : State} {m : MethodId} {args : Array Value} {below : List Frame} {meth : Method} {c : Code} {D : va_G} {G : sx_G} {A : Nat → Prop} {cc : ByteArray} {nL cells slots : Nat} {own : String} {Q : State → Prop} {pc : Nat} {lv : List (Nat × Value)} {st : List Value} {b n : Nat} {lay : Nat → sx_K} {f : sx_F}
theorem sx_geti (C : sx_Cx p l s m args meth c D G A cc nL own) {ref C0 : String} {T : u_T} {N ci index j : Nat} (d : decode cc pc = .ok (.getfield index, 3)) (hlink : Cond.fieldLink own index ref (T j).2.1 (T j).2.2.1 ∈ sx_ws) (hin : ∀ w ∈ u_ws C0 T N, w ∈ sx_ws) (hc : vwCl[ci]? = some (C0, T, N)) (hjN : j < N) (hsame : (T j).1 = ref) {k : Nat} {fs : List (Option (Option Nat))} (hk : k < n) (hl : lay k = .inr (.inr (ci, fs))) (hj : fs[j]? = some none) (q : Nat) (hq : pc + 3 = q) (kk : sx_J (sx_w G b lay n) p l e R s m args below meth c D A nL cells slots Q (f) (q) (lv) (.int (f k j) :: st)) : sx_J (sx_w G b lay n) p l e R s m args below meth c D A nL cells slots Q (f) (pc) (lv) (.ref (b + k) :: st) := by
  subst hq
  subst hsame
  intro H locs ls hP hS hls
  have hg := sx_get (G := G) (b := b) (lay := lay) (f := f) hk
  rw [hl] at hg
  exact va_get C.1 C.2.1 (C.2.2.2.2.1) hin C.2.2.2.1 C.2.2.2.2.2.2.2.2.1 hP k hg hc j hjN (C.2.2.2.2.1 _ hlink) (fun x h => h) (by have h9 := sx_fv_i b (f k) fs 0 j hj; rw [Nat.zero_add] at h9; exact h9) d (kk H locs ls hP hS hls)
theorem sx_getiN (C : sx_Cx p l s m args meth c D G A cc nL own) {ref C0 host : String} {T : u_T} {N ci index j : Nat} (d : decode cc pc = .ok (.getfield index, 3)) (hlink : Cond.fieldLinkNest own index ref (T j).2.1 (T j).2.2.1 host ∈ sx_nw) (hin : ∀ w ∈ u_ws C0 T N, w ∈ sx_ws) (hc : vwCl[ci]? = some (C0, T, N)) (hjN : j < N) (hsame : (T j).1 = ref) {k : Nat} {fs : List (Option (Option Nat))} (hk : k < n) (hl : lay k = .inr (.inr (ci, fs))) (hj : fs[j]? = some none) (q : Nat) (hq : pc + 3 = q) (kk : sx_J (sx_w G b lay n) p l e R s m args below meth c D A nL cells slots Q (f) (q) (lv) (.int (f k j) :: st)) : sx_J (sx_w G b lay n) p l e R s m args below meth c D A nL cells slots Q (f) (pc) (lv) (.ref (b + k) :: st) := by
  subst hq
  subst hsame
  intro H locs ls hP hS hls
  have hg := sx_get (G := G) (b := b) (lay := lay) (f := f) hk
  rw [hl] at hg
  exact va_getN C.1 C.2.1 (C.2.2.2.2.1) hin C.2.2.2.1 C.2.2.2.2.2.2.2.2.1 hP k hg hc j hjN (va_Nw.use rfl (C.2.2.2.2.2.2.2.2.2.1 _ hlink)) (fun x h => h) (by have h9 := sx_fv_i b (f k) fs 0 j hj; rw [Nat.zero_add] at h9; exact h9) d (kk H locs ls hP hS hls)
theorem sx_getq (C : sx_Cx p l s m args meth c D G A cc nL own) {ref C0 : String} {T : u_T} {N ci index j : Nat} (d : decode cc pc = .ok (.getfield index, 3)) (hlink : Cond.fieldLink own index ref (T j).2.1 (T j).2.2.1 ∈ sx_ws) (hin : ∀ w ∈ u_ws C0 T N, w ∈ sx_ws) (hc : vwCl[ci]? = some (C0, T, N)) (hjN : j < N) (hsame : (T j).1 = ref) {k r : Nat} {fs : List (Option (Option Nat))} (hk : k < n) (hl : lay k = .inr (.inr (ci, fs))) (hj : fs[j]? = some (some (some r))) (q : Nat) (hq : pc + 3 = q) (kk : sx_J (sx_w G b lay n) p l e R s m args below meth c D A nL cells slots Q (f) (q) (lv) (.ref (b + r) :: st)) : sx_J (sx_w G b lay n) p l e R s m args below meth c D A nL cells slots Q (f) (pc) (lv) (.ref (b + k) :: st) := by
  subst hq
  subst hsame
  intro H locs ls hP hS hls
  have hg := sx_get (G := G) (b := b) (lay := lay) (f := f) hk
  rw [hl] at hg
  exact va_get C.1 C.2.1 (C.2.2.2.2.1) hin C.2.2.2.1 C.2.2.2.2.2.2.2.2.1 hP k hg hc j hjN (C.2.2.2.2.1 _ hlink) (fun x h => h) (sx_fv_q b (f k) fs 0 j (some r) hj) d (kk H locs ls hP hS hls)
theorem sx_getqN (C : sx_Cx p l s m args meth c D G A cc nL own) {ref C0 host : String} {T : u_T} {N ci index j : Nat} (d : decode cc pc = .ok (.getfield index, 3)) (hlink : Cond.fieldLinkNest own index ref (T j).2.1 (T j).2.2.1 host ∈ sx_nw) (hin : ∀ w ∈ u_ws C0 T N, w ∈ sx_ws) (hc : vwCl[ci]? = some (C0, T, N)) (hjN : j < N) (hsame : (T j).1 = ref) {k r : Nat} {fs : List (Option (Option Nat))} (hk : k < n) (hl : lay k = .inr (.inr (ci, fs))) (hj : fs[j]? = some (some (some r))) (q : Nat) (hq : pc + 3 = q) (kk : sx_J (sx_w G b lay n) p l e R s m args below meth c D A nL cells slots Q (f) (q) (lv) (.ref (b + r) :: st)) : sx_J (sx_w G b lay n) p l e R s m args below meth c D A nL cells slots Q (f) (pc) (lv) (.ref (b + k) :: st) := by
  subst hq
  subst hsame
  intro H locs ls hP hS hls
  have hg := sx_get (G := G) (b := b) (lay := lay) (f := f) hk
  rw [hl] at hg
  exact va_getN C.1 C.2.1 (C.2.2.2.2.1) hin C.2.2.2.1 C.2.2.2.2.2.2.2.2.1 hP k hg hc j hjN (va_Nw.use rfl (C.2.2.2.2.2.2.2.2.2.1 _ hlink)) (fun x h => h) (sx_fv_q b (f k) fs 0 j (some r) hj) d (kk H locs ls hP hS hls)
theorem sx_puti (C : sx_Cx p l s m args meth c D G A cc nL own) {ref C0 : String} {T : u_T} {N ci index j : Nat} (d : decode cc pc = .ok (.putfield index, 3)) (hlink : Cond.fieldLink own index ref (T j).2.1 (T j).2.2.1 ∈ sx_ws) (hin : ∀ w ∈ u_ws C0 T N, w ∈ sx_ws) (hc : vwCl[ci]? = some (C0, T, N)) (ty : Nat → FieldType) (hty : ∀ k, k < N → parseFieldDescriptor (T k).2.2.1 = some (ty k)) (hnm : ∀ a, a < N → ∀ b, b < N → a ≠ b → (T a).2.1 ≠ (T b).2.1) (hjN : j < N) (hsame : (T j).1 = ref) (hfin : (T j).2.2.2 = false) (hint : ty j = .int) (hB : ∀ k, k < n → A (b + k)) {k : Nat} {fs : List (Option (Option Nat))} (hk : k < n) (hl : lay k = .inr (.inr (ci, fs))) (hj : fs[j]? = some none) (q : Nat) (hq : pc + 3 = q) {v : Int32} (kk : ∀ f1 : sx_F, f1 = sx_u f k j v → sx_J (sx_w G b lay n) p l e R s m args below meth c D A nL cells slots Q (f1) (q) (lv) (st)) : sx_J (sx_w G b lay n) p l e R s m args below meth c D A nL cells slots Q (f) (pc) (lv) (.int v :: .ref (b + k) :: st) := by
  subst hq
  subst hsame
  intro H locs ls hP hS hls
  have hg := sx_get (G := G) (b := b) (lay := lay) (f := f) hk
  rw [hl] at hg
  have hd := hty j hjN
  rw [hint] at hd
  refine va_put C.1 C.2.1 (C.2.2.2.2.1) hin ty hty hnm C.2.2.2.1 C.2.2.2.2.2.2.2.2.1 hP (sx_D hB) hS k hg hc j hjN (C.2.2.2.2.1 _ hlink) (fun x h => h) hfin (v := .int v) hd rfl rfl (by rw [sx_fv_len]; exact (List.getElem?_eq_some_iff.mp hj).1) d (fun H1 locs1 hP1 _ hS1 => kk _ rfl H1 locs1 ls ?_ hS1 hls)
  have e : (sx_w G b lay n f).set k (b + k, .inr (ci, (sx_fv b (f k) fs 0).set j (.int v))) = sx_w G b lay n (sx_u f k j v) := sx_set hk (by
    rw [hl, sx_u_s]
    show _ = Sum.inr (ci, sx_fv b (upd (f k) j v) fs 0)
    rw [sx_fv_set b (f k) v fs 0 j hj, Nat.zero_add]) (fun i hi => sx_u_n hi)
  rw [← e]
  exact hP1
theorem sx_putiN (C : sx_Cx p l s m args meth c D G A cc nL own) {ref C0 host : String} {T : u_T} {N ci index j : Nat} (d : decode cc pc = .ok (.putfield index, 3)) (hlink : Cond.fieldLinkNest own index ref (T j).2.1 (T j).2.2.1 host ∈ sx_nw) (hin : ∀ w ∈ u_ws C0 T N, w ∈ sx_ws) (hc : vwCl[ci]? = some (C0, T, N)) (ty : Nat → FieldType) (hty : ∀ k, k < N → parseFieldDescriptor (T k).2.2.1 = some (ty k)) (hnm : ∀ a, a < N → ∀ b, b < N → a ≠ b → (T a).2.1 ≠ (T b).2.1) (hjN : j < N) (hsame : (T j).1 = ref) (hfin : (T j).2.2.2 = false) (hint : ty j = .int) (hB : ∀ k, k < n → A (b + k)) {k : Nat} {fs : List (Option (Option Nat))} (hk : k < n) (hl : lay k = .inr (.inr (ci, fs))) (hj : fs[j]? = some none) (q : Nat) (hq : pc + 3 = q) {v : Int32} (kk : ∀ f1 : sx_F, f1 = sx_u f k j v → sx_J (sx_w G b lay n) p l e R s m args below meth c D A nL cells slots Q (f1) (q) (lv) (st)) : sx_J (sx_w G b lay n) p l e R s m args below meth c D A nL cells slots Q (f) (pc) (lv) (.int v :: .ref (b + k) :: st) := by
  subst hq
  subst hsame
  intro H locs ls hP hS hls
  have hg := sx_get (G := G) (b := b) (lay := lay) (f := f) hk
  rw [hl] at hg
  have hd := hty j hjN
  rw [hint] at hd
  refine va_putN C.1 C.2.1 (C.2.2.2.2.1) hin ty hty hnm C.2.2.2.1 C.2.2.2.2.2.2.2.2.1 hP (sx_D hB) hS k hg hc j hjN (va_Nw.use rfl (C.2.2.2.2.2.2.2.2.2.1 _ hlink)) (fun x h => h) hfin (v := .int v) hd rfl rfl (by rw [sx_fv_len]; exact (List.getElem?_eq_some_iff.mp hj).1) d (fun H1 locs1 hP1 _ hS1 => kk _ rfl H1 locs1 ls ?_ hS1 hls)
  have e : (sx_w G b lay n f).set k (b + k, .inr (ci, (sx_fv b (f k) fs 0).set j (.int v))) = sx_w G b lay n (sx_u f k j v) := sx_set hk (by
    rw [hl, sx_u_s]
    show _ = Sum.inr (ci, sx_fv b (upd (f k) j v) fs 0)
    rw [sx_fv_set b (f k) v fs 0 j hj, Nat.zero_add]) (fun i hi => sx_u_n hi)
  rw [← e]
  exact hP1
theorem sx_iald (C : sx_Cx p l s m args meth c D G A cc nL own) (d : decode cc pc = .ok (.iaload, 1)) {k N : Nat} {i : Int32} (hk : k < n) (hl : lay k = .inl N) (hin : vp_in i N) (q : Nat) (hq : pc + 1 = q) (kk : sx_J (sx_w G b lay n) p l e R s m args below meth c D A nL cells slots Q (f) (q) (lv) (.int (f k i.toNatClampNeg) :: st)) : sx_J (sx_w G b lay n) p l e R s m args below meth c D A nL cells slots Q (f) (pc) (lv) (.int i :: .ref (b + k) :: st) := by
  subst hq
  intro H locs ls hP hS hls
  have hg := sx_get (G := G) (b := b) (lay := lay) (f := f) hk
  rw [hl] at hg
  exact va_iald C.1 C.2.1 C.2.2.2.2.2.2.2.2.1 hP k 0 hg rfl hin d (kk H locs ls hP hS hls)
theorem sx_iast (C : sx_Cx p l s m args meth c D G A cc nL own) (d : decode cc pc = .ok (.iastore, 1)) (hB : ∀ k, k < n → A (b + k)) {k N : Nat} {i x : Int32} (hk : k < n) (hl : lay k = .inl N) (hin : vp_in i N) (q : Nat) (hq : pc + 1 = q) (kk : ∀ f1 : sx_F, f1 = sx_u f k i.toNatClampNeg x → sx_J (sx_w G b lay n) p l e R s m args below meth c D A nL cells slots Q (f1) (q) (lv) (st)) : sx_J (sx_w G b lay n) p l e R s m args below meth c D A nL cells slots Q (f) (pc) (lv) (.int x :: .int i :: .ref (b + k) :: st) := by
  subst hq
  intro H locs ls hP hS hls
  have hg := sx_get (G := G) (b := b) (lay := lay) (f := f) hk
  rw [hl] at hg
  refine va_iast C.1 C.2.1 C.2.2.2.2.2.2.2.2.1 hP (sx_D hB) hS k 0 hg rfl hin d (fun H1 locs1 hP1 _ hS1 => kk _ rfl H1 locs1 ls ?_ hS1 hls)
  have e : (sx_w G b lay n f).set k (b + k, .inl (G.1, N, .inl (upd (f k) i.toNatClampNeg x))) = sx_w G b lay n (sx_u f k i.toNatClampNeg x) := sx_set hk (by rw [hl, sx_u_s]; rfl) (fun j hj => sx_u_n hj)
  rw [← e]
  exact hP1
theorem sx_aald (C : sx_Cx p l s m args meth c D G A cc nL own) (d : decode cc pc = .ok (.aaload, 1)) {k t N r : Nat} {g : Nat → Option Nat} {ty : FieldType} {i : Int32} (hk : k < n) (hl : lay k = .inr (.inl (t, N, g))) (ht : (sx_tys G)[t + 1]? = some (G.2 t, ty)) (href : ty.isReference = true) (hin : vp_in i N) (hr : g i.toNatClampNeg = some r) (q : Nat) (hq : pc + 1 = q) (kk : sx_J (sx_w G b lay n) p l e R s m args below meth c D A nL cells slots Q (f) (q) (lv) (.ref (b + r) :: st)) : sx_J (sx_w G b lay n) p l e R s m args below meth c D A nL cells slots Q (f) (pc) (lv) (.int i :: .ref (b + k) :: st) := by
  subst hq
  intro H locs ls hP hS hls
  have hg := sx_get (G := G) (b := b) (lay := lay) (f := f) hk
  rw [hl] at hg
  have hlt : i.toNatClampNeg < N := Nat.not_le.mp fun z => hin (Or.inr z)
  refine W.aald (v := .ref (b + r)) (ty := ty) C.1 C.2.1 (hP k _ hg) ((C.2.2.2.2.2.2.2.2.1.2 (t + 1) _ ht).1 N (fun j => va_rf ((g j).map (fun k => b + k)))) href (fun z => by cases z) (by show ¬ (i < 0 ∨ (arrV _ _ _).slots.size ≤ _); rw [arrV_size]; exact hin) ?_ rfl rfl d (kk H locs ls hP hS hls)
  show (arrV _ _ _).slots[_]? = _
  rw [arrV_read _ _ hlt]
  show some (va_rf ((g i.toNatClampNeg).map (fun k => b + k))) = some (Value.ref (b + r))
  rw [hr]
  rfl
theorem sx_aaldn (C : sx_Cx p l s m args meth c D G A cc nL own) (d : decode cc pc = .ok (.aaload, 1)) {k t N : Nat} (r0 : Nat) {g : Nat → Option Nat} {ty : FieldType} {i : Int32} (hk : k < n) (hl : lay k = .inr (.inl (t, N, g))) (ht : (sx_tys G)[t + 1]? = some (G.2 t, ty)) (href : ty.isReference = true) (hin : vp_in i N) (hr : g i.toNatClampNeg = some r0) (q : Nat) (hq : pc + 1 = q) (kk : ∀ r : Nat, r = r0 → sx_J (sx_w G b lay n) p l e R s m args below meth c D A nL cells slots Q (f) (q) (lv) (.ref (b + r) :: st)) : sx_J (sx_w G b lay n) p l e R s m args below meth c D A nL cells slots Q (f) (pc) (lv) (.int i :: .ref (b + k) :: st) := sx_aald C d hk hl ht href hin hr q hq (kk r0 rfl)
theorem sx_alen (C : sx_Cx p l s m args meth c D G A cc nL own) (d : decode cc pc = .ok (.arraylength, 1)) {k N : Nat} (hk : k < n) (hl : lay k = .inl N) (v : Int32) (hv : Int32.ofNat N = v) (q : Nat) (hq : pc + 1 = q) (kk : sx_J (sx_w G b lay n) p l e R s m args below meth c D A nL cells slots Q (f) (q) (lv) (.int v :: st)) : sx_J (sx_w G b lay n) p l e R s m args below meth c D A nL cells slots Q (f) (pc) (lv) (.ref (b + k) :: st) := by
  subst hq
  intro H locs ls hP hS hls
  have hg := sx_get (G := G) (b := b) (lay := lay) (f := f) hk
  rw [hl] at hg
  exact va_alen C.1 C.2.1 C.2.2.2.2.2.2.2.2.1 hP k 0 hg rfl hv d (kk H locs ls hP hS hls)
end SY
abbrev sx_qi (Q : Int32 → sx_F → Prop) : Option Value → sx_F → Prop := fun v u => ∃ r : Int32, v = some (.int r) ∧ Q r u
abbrev sx_pi (f : sx_F) (Q : Int32 → Prop) : Option Value → sx_F → Prop := fun v u => (∃ r : Int32, v = some (.int r) ∧ Q r) ∧ f = u
abbrev sx_qv (Q : sx_F → Prop) : Option Value → sx_F → Prop := fun v u => v = none ∧ Q u
abbrev sx_pv (f : sx_F) (Q : Prop) : Option Value → sx_F → Prop := fun v u => (v = none ∧ Q) ∧ f = u
abbrev sx_pr (b : Nat) (is : Nat → Prop) (f : sx_F) (Q : Nat → Prop) : Option Value → sx_F → Prop := fun v u => (∃ r : Nat, v = some (.ref (b + r)) ∧ is r ∧ Q r) ∧ f = u
abbrev sx_xp (f : sx_F) (X : String → Prop) : String → sx_F → Prop := fun E u => X E ∧ f = u
/-! contracts: a method of a world; it answers (v, u) with Qv v u, or throws an E with X E u -/
section SC
variable {σ : Type}
def sx_Qc (D : va_G) (wd : σ → va_W) (A : Nat → Prop) (Qv : Option Value → σ → Prop) : Array Value → State → Outcome → State → Prop := fun _ st o t => (∃ (v : Option Value) (u : σ), o = .returned v ∧ Qv v u ∧ va_P D vwCl (wd u) t.heap) ∧ va_F A st t
def sx_XC (D : va_G) (wd : σ → va_W) (A : Nat → Prop) (X : String → σ → Prop) : String → State → State → Prop := fun E st t => ∃ u : σ, X E u ∧ va_P D vwCl (wd u) t.heap ∧ va_F A st t
def sx_Pre (D : va_G) (G : sx_G) (b n : Nat) (lay : Nat → sx_K) (as : List Value) (f : sx_F) (sz : Nat) : Array Value → State → Prop := va_Pc as (fun U => U.heap.size = sz ∧ va_P D vwCl (sx_w G b lay n f) U.heap ∧ sx_V D G (sx_A b n sz) U U.heap)
def sx_Met (l : Launch) (D : va_G) (G : sx_G) (b n : Nat) (lay : Nat → sx_K) (y : MethodName) (cc : ByteArray) (maxL : Nat) (ret : Option FieldType) (fr lo mc ms : Nat) (as : List Value) (f : sx_F) (Qv : Option Value → sx_F → Prop) (X : String → sx_F → Prop) : Prop :=
  ∀ sz : Nat, vx_Met l y (Cond.code y cc maxL ret :: sx_ws) { frames := fr, cells := mc, slots := ms, locals := lo } (sx_Pre D G b n lay as f sz) (sx_Qc D (sx_w G b lay n) (sx_A b n sz) Qv) (sx_XC D (sx_w G b lay n) (sx_A b n sz) X) mc ms (sx_A b n sz)
def sx_MetN (l : Launch) (D : va_G) (G : sx_G) (b n : Nat) (lay : Nat → sx_K) (y : MethodName) (cc : ByteArray) (maxL : Nat) (ret : Option FieldType) (fr lo : Nat) (as : List Value) (f : sx_F) (Qv : Option Value → sx_F → Prop) : Prop :=
  ∀ sz : Nat, Met l y (Cond.code y cc maxL ret :: sx_ws) { frames := fr, cells := 0, slots := 0, locals := lo } (sx_Pre D G b n lay as f sz) (sx_Qc D (sx_w G b lay n) (sx_A b n sz) Qv) 0 0 (sx_A b n sz)
def sx_fin (D : va_G) (wd : σ → va_W) (A : Nat → Prop) (below : List Frame) (args : Array Value) (s : State) (mc ms : Nat) (Qv : Option Value → σ → Prop) (X : String → σ → Prop) : State → Prop := vx_MQ below (sx_Qc D wd A Qv) (sx_XC D wd A X) args s mc ms A
theorem sx_gi {y : MethodName} {cc : ByteArray} {maxL : Nat} {ret : Option FieldType} (hc : Cond.code y cc maxL ret ∈ sx_ws) : GoodIn sx_ws (Cond.code y cc maxL ret :: sx_ws) := fun w hw => by
  have h1 : w ∈ sx_ws := (List.mem_cons.mp hw).elim (fun e => by rw [e]; exact hc) id
  exact ⟨h1, good_of_word (List.mem_filter.mp h1).2⟩
/-- the words of a method that is called: its code, whose it is -/
def sx_Mi (y : MethodName) (cc : ByteArray) (maxL : Nat) (ret : Option FieldType) (na : Nat) : Prop :=
  Cond.code y cc maxL ret ∈ sx_ws ∧ Cond.initialized y.cls ∈ sx_ws ∧ y.cls ≠ "java/lang/invoke/MethodHandle" ∧ y.cls ≠ "java/lang/invoke/VarHandle" ∧ (parseMethodDescriptor y.desc).map (fun d => d.parameters.length) = some na
theorem sx_blind {D : va_G} {G : sx_G} {b n sz : Nat} {lay : Nat → sx_K} {as : List Value} {f : sx_F} : FrameBlind (sx_Pre D G b n lay as f sz) := fun a U g mk h => ⟨h.1, h.2.1, h.2.2.1, sx_V.warm (s := U) (U := U.calling g mk a) (State.WarmedH.refl U) h.2.2.2⟩
variable {p : Program} {l : Launch} {e : Env} {R : Room} {s : State} {m : MethodId} {args : Array Value} {below : List Frame} {meth : Method} {c : Code} {D : va_G} {G : sx_G} {A : Nat → Prop} {cc : ByteArray} {nL cells slots : Nat} {own : String} {Q : State → Prop} {pc : Nat} {lv : List (Nat × Value)} {st : List Value} {b n : Nat} {lay : Nat → sx_K} {f : sx_F} {wd : σ → va_W}
/-- a method from its entry -/
theorem sx_enter {y : MethodName} {maxL : Nat} {ret : Option FieldType} {fr lo mc ms : Nat} {as : List Value} {Qv : Option Value → sx_F → Prop} {X : String → sx_F → Prop} (hl : l.stackTraces = false) (hy : plainName y.cls = true) (hn : (lg_sl as).length ≤ maxL)
    (body : ∀ (p : Program) (e : Env) (s : State) (m : MethodId) (args : Array Value) (below : List Frame) (meth : Method) (c : Code), sx_Cx p l s m args meth c D G (sx_A b n s.heap.size) cc maxL y.cls → meth.sig.returnType = ret → (∀ x ∈ c.exceptionTable.toList, False) →
      sx_J (sx_w G b lay n) p l e { frames := fr, cells := mc, slots := ms, locals := lo } s m args below meth c D (sx_A b n s.heap.size) maxL 0 0 (sx_fin D (sx_w G b lay n) (sx_A b n s.heap.size) below args s mc ms Qv X) f 0 (lv_args 0 as) []) : sx_Met l D G b n lay y cc maxL ret fr lo mc ms as f Qv X := by
  intro sz
  refine vx_ofW (cc := cc) (maxL := maxL) (ret := ret) hy rfl ?_
  intro p e s m args below meth c s₁ B hml ht hv
  obtain ⟨rfl, hsz, hP, hV⟩ := hv
  subst hsz
  have hts := atoms_spec (ws := Cond.code y cc maxL ret :: sx_ws) B.pre
  have hC : sx_Cx p l s m as.toArray meth c D G (sx_A b n s.heap.size) cc maxL y.cls := ⟨B.exec, B.bytes, hml, findClass_of_methodNamed B.named, fun w hw => hts w (List.mem_cons_of_mem _ hw), fun q hq => Or.inr hq, B.notSynchronized, hl, hV⟩
  rw [lg_entry_eq]
  exact body p e s m as.toArray below meth c hC B.returns ht s.heap [] _ hP va_S.rf (lv_entry as hn)
theorem sx_enterN {y : MethodName} {maxL : Nat} {ret : Option FieldType} {fr lo : Nat} {as : List Value} {Qv : Option Value → sx_F → Prop} (hl : l.stackTraces = false) (hy : plainName y.cls = true) (hn : (lg_sl as).length ≤ maxL)
    (body : ∀ (p : Program) (e : Env) (s : State) (m : MethodId) (args : Array Value) (below : List Frame) (meth : Method) (c : Code), sx_Cx p l s m args meth c D G (sx_A b n s.heap.size) cc maxL y.cls → meth.sig.returnType = ret →
      sx_J (sx_w G b lay n) p l e { frames := fr, cells := 0, slots := 0, locals := lo } s m args below meth c D (sx_A b n s.heap.size) maxL 0 0 (MQ below (sx_Qc D (sx_w G b lay n) (sx_A b n s.heap.size) Qv) args s 0 0 (sx_A b n s.heap.size)) f 0 (lv_args 0 as) []) : sx_MetN l D G b n lay y cc maxL ret fr lo as f Qv := by
  intro sz
  refine Met.ofW (cc := cc) (maxL := maxL) (ret := ret) hy rfl ?_
  intro p e s m args below meth c s₁ B hml hv
  obtain ⟨rfl, hsz, hP, hV⟩ := hv
  subst hsz
  have hts := atoms_spec (ws := Cond.code y cc maxL ret :: sx_ws) B.pre
  have hC : sx_Cx p l s m as.toArray meth c D G (sx_A b n s.heap.size) cc maxL y.cls := ⟨B.exec, B.bytes, hml, findClass_of_methodNamed B.named, fun w hw => hts w (List.mem_cons_of_mem _ hw), fun q hq => Or.inr hq, B.notSynchronized, hl, hV⟩
  rw [lg_entry_eq]
  exact body p e s m as.toArray below meth c hC B.returns s.heap [] _ hP va_S.rf (lv_entry as hn)
theorem sx_iret (C : sx_Cx p l s m args meth c D G A cc nL own) {mc ms : Nat} {Qv : Option Value → σ → Prop} {X : String → σ → Prop} {v : Int32} {u : σ} (d : decode cc pc = .ok (.ireturn, 1)) (hr : meth.sig.returnType = some .int) (hc : cells ≤ mc) (hs : slots ≤ ms) (hQ : Qv (some (.int v)) u) : sx_J wd p l e R s m args below meth c D A nL cells slots (sx_fin D wd A below args s mc ms Qv X) u pc lv [.int v] := fun H locs ls hP hS hl =>
  W.widen hc hs (vx_ret (W.iret C.1 C.2.1 hr (fun t ht _ => ⟨⟨_, u, rfl, hQ, by rw [ht]; exact hP⟩, hS.F ht⟩) hS.2.2 d C.2.2.2.2.2.2.1))
theorem sx_iretN (C : sx_Cx p l s m args meth c D G A cc nL own) {Qv : Option Value → σ → Prop} {v : Int32} {u : σ} (d : decode cc pc = .ok (.ireturn, 1)) (hr : meth.sig.returnType = some .int) (hQ : Qv (some (.int v)) u) : sx_J wd p l e R s m args below meth c D A nL cells slots (MQ below (sx_Qc D wd A Qv) args s cells slots A) u pc lv [.int v] := fun H locs ls hP hS hl =>
  W.iret C.1 C.2.1 hr (fun t ht _ => ⟨⟨_, u, rfl, hQ, by rw [ht]; exact hP⟩, hS.F ht⟩) hS.2.2 d C.2.2.2.2.2.2.1
theorem sx_zret (C : sx_Cx p l s m args meth c D G A cc nL own) {mc ms : Nat} {Qv : Option Value → σ → Prop} {X : String → σ → Prop} {v : Int32} {u : σ} (d : decode cc pc = .ok (.ireturn, 1)) (hr : meth.sig.returnType = some .boolean) (hc : cells ≤ mc) (hs : slots ≤ ms) (hv : v = 0 ∨ v = 1) (hQ : Qv (some (.int v)) u) : sx_J wd p l e R s m args below meth c D A nL cells slots (sx_fin D wd A below args s mc ms Qv X) u pc lv [.int v] := fun H locs ls hP hS hl =>
  W.widen hc hs (vx_ret (W.zret C.1 C.2.1 hr (by rcases hv with rfl | rfl <;> rfl) (fun t ht _ => ⟨⟨_, u, rfl, hQ, by rw [ht]; exact hP⟩, hS.F ht⟩) hS.2.2 d C.2.2.2.2.2.2.1))
theorem sx_vret (C : sx_Cx p l s m args meth c D G A cc nL own) {mc ms : Nat} {Qv : Option Value → σ → Prop} {X : String → σ → Prop} {u : σ} (d : decode cc pc = .ok (.return_, 1)) (hr : meth.sig.returnType = none) (hc : cells ≤ mc) (hs : slots ≤ ms) (hQ : Qv none u) : sx_J wd p l e R s m args below meth c D A nL cells slots (sx_fin D wd A below args s mc ms Qv X) u pc lv [] := fun H locs ls hP hS hl =>
  W.widen hc hs (vx_ret (W.vret C.1 C.2.1 hr (fun t ht _ => ⟨⟨_, u, rfl, hQ, by rw [ht]; exact hP⟩, hS.F ht⟩) hS.2.2 d C.2.2.2.2.2.2.1))
theorem sx_aret (C : sx_Cx p l s m args meth c D G A cc nL own) {mc ms : Nat} {Qv : Option Value → σ → Prop} {X : String → σ → Prop} {a : Nat} {u : σ} {nm : String} (d : decode cc pc = .ok (.areturn, 1)) (hr : meth.sig.returnType = some (.object nm)) (hc : cells ≤ mc) (hs : slots ≤ ms) (hQ : Qv (some (.ref a)) u) : sx_J wd p l e R s m args below meth c D A nL cells slots (sx_fin D wd A below args s mc ms Qv X) u pc lv [.ref a] := fun H locs ls hP hS hl =>
  W.widen hc hs (vx_ret (W.aret C.1 C.2.1 hr (Or.inl ⟨_, rfl⟩) (Or.inr ⟨_, rfl⟩) (fun t ht _ => ⟨⟨_, u, rfl, hQ, by rw [ht]; exact hP⟩, hS.F ht⟩) hS.2.2 d C.2.2.2.2.2.2.1))
/-- 'throw new E("text")' -/
theorem sx_throw (C : sx_Cx p l s m args meth c D G A cc nL own) (ht : ∀ x ∈ c.exceptionTable.toList, False) {mc ms : Nat} {Qv : Option Value → σ → Prop} {X : String → σ → Prop} {u : σ} {cls text : String} {names : List String} {ik is ic : Nat}
    (d0 : decode cc pc = .ok (.new ik, 3)) (d3 : decode cc (pc + 3) = .ok (.dup, 1)) (d4 : decode cc (pc + 4) = .ok (.ldc is, 2)) (d6 : decode cc (pc + 6) = .ok (.invokespecial ic, 3)) (d9 : decode cc (pc + 9) = .ok (.athrow, 1))
    (hcls : Bundle.fit cls = true ∧ (∀ n ∈ names, Bundle.fit n = true)) (hk : Cond.classLink own ik cls ∈ sx_ws) (hini : Cond.initialized cls ∈ sx_ws) (hstr : (own, is, text) ∈ sx_str) (hat : ∀ w ∈ vx_atS own ic cls names, w ∈ sx_ws ∨ w ∈ sx_nw)
    (hgood : ∀ w ∈ Cond.classLink own ik cls :: Cond.initialized cls :: vx_atS own ic cls names, vx_ot w = true)
    (hR : names.length + 3 < R.frames ∧ (st.map fun v => v.category).sum + (13 * (names.length + 1) + 43) ≤ R.locals ∧ cells + 1 ≤ R.cells ∧ slots + 6 ≤ R.slots) (hc : cells + 1 ≤ mc) (hs : slots + 6 ≤ ms) (hX : X cls u) :
    sx_J wd p l e R s m args below meth c D A nL cells slots (sx_fin D wd A below args s mc ms Qv X) u pc lv st := by
  intro H locs ls hP hS hl
  obtain ⟨sa, hsa⟩ := C.2.2.2.2.2.2.2.2.2.2.1 _ hstr
  refine vx_throwS C.1 C.2.1 C.2.2.2.2.2.2.2.1 C.2.2.2.1 hcls.1 hcls.2 (C.2.2.2.2.1 _ hk) (C.2.2.2.2.1 _ hini) hsa (fun w hw => ?_) hgood C.2.2.2.2.2.2.2.2.2.2.2.1 C.2.2.2.2.2.2.2.2.2.2.2.2 hS (hl.1.trans C.2.2.1.symm) d0 d3 d4 d6 d9 (fun x hx => (ht x hx).elim) hR.1 hR.2.1 hR.2.2.1 hR.2.2.2 C.2.2.2.2.2.2.1 (fun t _ h1 h2 => ?_) hS.2.2 hc hs
  · rcases hat w hw with h | h
    · exact C.2.2.2.2.1 w h
    · exact va_Nw.use (by
        have h9 := (List.mem_filter.mp h).2
        cases w <;> first | rfl | simp [sx_kw] at h9) (C.2.2.2.2.2.2.2.2.2.1 w h)
  · exact ⟨u, hX, hP.kept (fun k q hk => h2 q.1 (hP k q hk).lt), Nat.le_trans hS.1 h1, fun q h3 h4 => by rw [h2 q (Nat.lt_of_lt_of_le h3 hS.1)]; exact hS.2.1 q h3 h4⟩
/-- a call that has been made: back here with its answer, or with what it threw -/
theorem sx_back {H : Heap} {locs : List Loc} {ls : Array Slot} {st0 : List Value} {mc ms : Nat} {A1 : Nat → Prop} {free : Addr → Prop} {a : Array Value} {Qv : Option Value → σ → Prop} {X : String → σ → Prop}
    (hr : vx_Run p l e R s m args below meth c H locs cells slots mc ms (F0 m pc ls st0) st (sx_Qc D wd A1 Qv a) (sx_XC D wd A1 X) free) (hS : va_S A s.heap H locs) (hA : ∀ q, q < H.size → A1 q → A q) (hf : ∀ q, free q → A q)
    (kk : ∀ (v : Option Value) (u : σ) (H1 : Heap) (locs1 : List Loc), Qv v u → va_P D vwCl (wd u) H1 → H.size ≤ H1.size → (∀ q : Nat, q < H.size → ¬ A1 q → H1[q]? = H[q]?) → va_S A s.heap H1 locs1 → W p l e R s m args below meth c H1 locs1 (cells + mc) (slots + ms) Q (F0 m (pc + 3) ls (v.toList ++ st)))
    (kx : ∀ (E : String) (ce : Cell) (q9 : Addr) (u : σ) (H1 : Heap) (locs1 : List Loc), X E u → va_P D vwCl (wd u) H1 → H.size ≤ H1.size → (∀ q : Nat, q < H.size → ¬ A1 q → H1[q]? = H[q]?) → va_S A s.heap H1 locs1 → H1[q9]? = some ce → ce.vm = .none → s.vm.findClass E = some ce.cls → vx_W p l e R s m args below meth c H1 locs1 (cells + mc) (slots + ms) Q (F0 m pc ls st) q9) :
    W p l e R s m args below meth c H locs cells slots Q (F0 m pc ls st0) := by
  intro T hT Xs
  rcases hr T hT Xs with ⟨v, st₀, t, T', L, h0, X', hL, e1, e2, ⟨⟨v', u, hv, hq, hP⟩, hF⟩, go⟩ | ⟨q, st₀, t, T', L, E, ce, h0, X', hL, e1, e2, ⟨u, hx, hP, hF⟩, hce, hcv, hcl, go⟩
  · have hvv : v = v' := by injection hv
    subst hvv
    obtain ⟨k1, k2, k3⟩ := vx_keep h0 e1 hS hA hf hL hF
    obtain ⟨t2, a1, b1⟩ := kk v u T'.heap (locs ++ L) hq (by rw [e1]; exact hP) k1 k2 k3 T' rfl X'
    exact ⟨t2, go t2 a1, b1⟩
  · obtain ⟨k1, k2, k3⟩ := vx_keep h0 e1 hS hA hf hL hF
    obtain ⟨t2, a1, b1⟩ := kx E ce q u T'.heap (locs ++ L) hx (by rw [e1]; exact hP) k1 k2 k3 (by rw [e1]; exact hce) hcv hcl T' rfl X'
    exact ⟨t2, go.trans a1, b1⟩
theorem sx_callee (C : sx_Cx p l s m args meth c D G A cc nL own) (hB : ∀ k, k < n → A (b + k)) {H : Heap} {locs : List Loc} (hS : va_S A s.heap H locs) {U : State} (hU : U.heap = H) (hW : s.WarmedH U.vm) : sx_V D G (sx_A b n H.size) U U.heap := by
  rw [hU]
  have h1 : sx_V D G A s H := C.2.2.2.2.2.2.2.2.kept hS.2.1
  refine (h1.narrow (fun q hq => ?_)).warm hW
  rcases hq with ⟨h2, h3⟩ | h2
  · have h4 := hB (q - b) (by omega)
    rw [show b + (q - b) = q by omega] at h4
    exact h4
  · exact C.2.2.2.2.2.1 q (Nat.le_trans hS.1 h2)
theorem sx_sub_A (C : sx_Cx p l s m args meth c D G A cc nL own) (hB : ∀ k, k < n → A (b + k)) {H : Heap} {locs : List Loc} (hS : va_S A s.heap H locs) : ∀ q, sx_A b n H.size q → A q := fun q hq => by
  rcases hq with ⟨h2, h3⟩ | h2
  · have h4 := hB (q - b) (by omega)
    rw [show b + (q - b) = q by omega] at h4
    exact h4
  · exact C.2.2.2.2.2.1 q (Nat.le_trans hS.1 h2)
theorem sx_runV (C : sx_Cx p l s m args meth c D G A cc nL own) (hB : ∀ k, k < n → A (b + k)) {y : MethodName} {bytes : ByteArray} {maxL index na k ci fr lo mc ms : Nat} {ret : Option FieldType} {fs : List (Option (Option Nat))} {r : vw_C} {As : List Value} {st0 : List Value} {Qv : Option Value → sx_F → Prop} {X : String → sx_F → Prop} (d : decode cc pc = .ok (.invokevirtual index, 3))
    (ct : sx_Met l D G b n lay y bytes maxL ret fr lo mc ms (.ref (b + k) :: As) f Qv X) (hy : sx_Mi y bytes maxL ret na) (hlink : Cond.methodLink own index y ∈ sx_ws) (hinst : Cond.instanceMethod y ∈ sx_ws) (hsel : Cond.selects y.cls y y ∈ sx_ws)
    (hk : k < n) (hl : lay k = .inr (.inr (ci, fs))) (hc : vwCl[ci]? = some r) (hrc : r.1 = y.cls) (hn : As.length = na) (hst : st0 = As.reverse ++ .ref (b + k) :: st)
    (hR : (fr + 1 ≤ R.frames ∧ 8 + (maxL + 11) + lo ≤ R.locals) ∧ cells + mc ≤ R.cells ∧ slots + ms ≤ R.slots) (hcat : (st.map fun v => v.category).sum ≤ 8) {H : Heap} {locs : List Loc} {ls : Array Slot} (hP : va_P D vwCl (sx_w G b lay n f) H) (hS : va_S A s.heap H locs) (hls : lv_has ls nL lv) :
    vx_Run p l e R s m args below meth c H locs cells slots mc ms (F0 m pc ls st0) st (sx_Qc D (sx_w G b lay n) (sx_A b n H.size) Qv (Value.ref (b + k) :: As).toArray) (sx_XC D (sx_w G b lay n) (sx_A b n H.size) X) (sx_A b n H.size) := by
  have hg := sx_get (G := G) (b := b) (lay := lay) (f := f) hk
  rw [hl] at hg
  have hrv := va_recv C.2.2.2.2.2.2.2.2.1 hP hc hg
  rw [hrc] at hrv
  have cb : CallB R s args own index y bytes maxL ret (Cond.code y bytes maxL ret :: sx_ws) { frames := fr, cells := mc, slots := ms, locals := lo } mc ms na := callB_of na C.2.2.2.2.1 (sx_gi hy.1) rfl rfl rfl (C.2.2.2.2.1 _ hy.2.1) (C.2.2.2.2.1 _ hlink) hy.2.2 hR.1
  exact vx_runV (As := As) (rest := st) ⟨C.1, C.2.1, C.2.2.1, C.2.2.2.1, C.2.2.2.2.1⟩ (ct H.size) ⟨cb, C.2.2.2.2.1 _ hinst, C.2.2.2.2.1 _ hsel⟩ ⟨sx_blind, hrv, fun U hU hW => ⟨rfl, by rw [hU], by rw [hU]; exact hP, sx_callee C hB hS hU hW⟩⟩ rfl hn hls.1 hst (lv_room (pc := pc) hcat) d hR.2
theorem sx_runS (C : sx_Cx p l s m args meth c D G A cc nL own) (hB : ∀ k, k < n → A (b + k)) {y : MethodName} {bytes : ByteArray} {maxL index na fr lo mc ms : Nat} {ret : Option FieldType} {As : List Value} {st0 : List Value} {Qv : Option Value → sx_F → Prop} {X : String → sx_F → Prop} (d : decode cc pc = .ok (.invokestatic index, 3))
    (ct : sx_Met l D G b n lay y bytes maxL ret fr lo mc ms As f Qv X) (hy : sx_Mi y bytes maxL ret na) (hlink : Cond.methodLink own index y ∈ sx_ws) (hstat : Cond.static y ∈ sx_ws) (hn : As.length = na) (hst : st0 = As.reverse ++ st)
    (hR : (fr + 1 ≤ R.frames ∧ 8 + (maxL + 11) + lo ≤ R.locals) ∧ cells + mc ≤ R.cells ∧ slots + ms ≤ R.slots) (hcat : (st.map fun v => v.category).sum ≤ 8) {H : Heap} {locs : List Loc} {ls : Array Slot} (hP : va_P D vwCl (sx_w G b lay n f) H) (hS : va_S A s.heap H locs) (hls : lv_has ls nL lv) :
    vx_Run p l e R s m args below meth c H locs cells slots mc ms (F0 m pc ls st0) st (sx_Qc D (sx_w G b lay n) (sx_A b n H.size) Qv As.toArray) (sx_XC D (sx_w G b lay n) (sx_A b n H.size) X) (sx_A b n H.size) := by
  have cb : CallB R s args own index y bytes maxL ret (Cond.code y bytes maxL ret :: sx_ws) { frames := fr, cells := mc, slots := ms, locals := lo } mc ms na := callB_of na C.2.2.2.2.1 (sx_gi hy.1) rfl rfl rfl (C.2.2.2.2.1 _ hy.2.1) (C.2.2.2.2.1 _ hlink) hy.2.2 hR.1
  exact vx_runS (As := As) (rest := st) ⟨C.1, C.2.1, C.2.2.1, C.2.2.2.1, C.2.2.2.2.1⟩ (ct H.size) ⟨cb, C.2.2.2.2.1 _ hstat⟩ ⟨sx_blind, fun U hU hW => ⟨rfl, by rw [hU], by rw [hU]; exact hP, sx_callee C hB hS hU hW⟩⟩ rfl hn hls.1 hst (lv_room (pc := pc) hcat) d hR.2
theorem sx_runSN (C : sx_Cx p l s m args meth c D G A cc nL own) (hB : ∀ k, k < n → A (b + k)) {y : MethodName} {bytes : ByteArray} {maxL index na fr lo : Nat} {host : String} {ret : Option FieldType} {As : List Value} {st0 : List Value} {Qv : Option Value → sx_F → Prop} (d : decode cc pc = .ok (.invokestatic index, 3))
    (ct : sx_MetN l D G b n lay y bytes maxL ret fr lo As f Qv) (hy : sx_Mi y bytes maxL ret na) (hlink : Cond.methodLinkNest own index y host ∈ sx_nw) (hstat : Cond.static y ∈ sx_ws) (hn : As.length = na) (hst : st0 = As.reverse ++ st)
    (hR : (fr + 1 ≤ R.frames ∧ 8 + (maxL + 11) + lo ≤ R.locals) ∧ cells + 0 ≤ R.cells ∧ slots + 0 ≤ R.slots) (hcat : (st.map fun v => v.category).sum ≤ 8) {H : Heap} {locs : List Loc} {ls : Array Slot} (hP : va_P D vwCl (sx_w G b lay n f) H) (hS : va_S A s.heap H locs) (hls : lv_has ls nL lv) :
    vx_Run p l e R s m args below meth c H locs cells slots 0 0 (F0 m pc ls st0) st (sx_Qc D (sx_w G b lay n) (sx_A b n H.size) Qv As.toArray) (sx_XC D (sx_w G b lay n) (sx_A b n H.size) (fun _ _ => False)) (sx_A b n H.size) := by
  have cn := va_cnB (bytes := bytes) (maxL := maxL) (ret := ret) (ws := Cond.code y bytes maxL ret :: sx_ws) (rm := { frames := fr, cells := 0, slots := 0, locals := lo }) (mc := 0) (ms := 0) (R := R) na C.2.2.2.2.1 (sx_gi hy.1) rfl rfl rfl (C.2.2.2.2.2.2.2.2.2.1 _ hlink) (C.2.2.2.2.1 _ hy.2.1) hy.2.2 hR.1
  intro T hT Xs
  obtain ⟨v, st₀, t, T', L, h0, X', hL, e1, e2, hq, go⟩ := va_runSN (As := As) (rest := st) (l := l) (below := below) (meth := meth) (locs := locs) (cells := cells) (slots := slots) (e := e) ⟨C.1, C.2.1, C.2.2.1, C.2.2.2.1, C.2.2.2.2.1⟩ (ct H.size) ⟨cn, C.2.2.2.2.1 _ hstat, trivial⟩ ⟨sx_blind, fun U hU hW => ⟨rfl, by rw [hU], by rw [hU]; exact hP, sx_callee C hB hS hU hW⟩⟩ (g := F0 m pc ls st0) rfl hn hls.1 hst (lv_room (pc := pc) hcat) d hR.2 T hT Xs
  exact Or.inl ⟨v, st₀, t, T', L, h0, X', hL, e1, e2, hq, go⟩
/-- an instance method of this world is called; what it throws goes on to the caller -/
theorem sx_callV (C : sx_Cx p l s m args meth c D G A cc nL own) (ht : ∀ x ∈ c.exceptionTable.toList, False) (hB : ∀ k, k < n → A (b + k)) {y : MethodName} {bytes : ByteArray} {maxL index na k ci fr lo mc ms mc0 ms0 : Nat} {ret : Option FieldType} {fs : List (Option (Option Nat))} {r : vw_C} {As : List Value} {st0 : List Value} {Qv Qv0 : Option Value → sx_F → Prop} {X X0 : String → sx_F → Prop} (d : decode cc pc = .ok (.invokevirtual index, 3))
    (ct : sx_Met l D G b n lay y bytes maxL ret fr lo mc ms (.ref (b + k) :: As) f Qv X) (hy : sx_Mi y bytes maxL ret na) (hlink : Cond.methodLink own index y ∈ sx_ws) (hinst : Cond.instanceMethod y ∈ sx_ws) (hsel : Cond.selects y.cls y y ∈ sx_ws)
    (hk : k < n) (hl : lay k = .inr (.inr (ci, fs))) (hc : vwCl[ci]? = some r) (hrc : r.1 = y.cls) (hn : As.length = na) (hst : st0 = As.reverse ++ .ref (b + k) :: st)
    (hR : (fr + 1 ≤ R.frames ∧ 8 + (maxL + 11) + lo ≤ R.locals) ∧ cells + mc ≤ R.cells ∧ slots + ms ≤ R.slots) (hcat : (st.map fun v => v.category).sum ≤ 8) (hmc : cells + mc ≤ mc0 ∧ slots + ms ≤ ms0) (kx : ∀ E u, X E u → X0 E u) (q : Nat) (hq : pc + 3 = q)
    (kk : ∀ (v : Option Value) (f1 : sx_F), Qv v f1 → sx_J (sx_w G b lay n) p l e R s m args below meth c D A nL (cells + mc) (slots + ms) (sx_fin D (sx_w G b lay n) A below args s mc0 ms0 Qv0 X0) f1 q lv (v.toList ++ st)) :
    sx_J (sx_w G b lay n) p l e R s m args below meth c D A nL cells slots (sx_fin D (sx_w G b lay n) A below args s mc0 ms0 Qv0 X0) f pc lv st0 := by
  subst hq
  intro H locs ls hP hS hls
  refine sx_back (sx_runV C hB d ct hy hlink hinst hsel hk hl hc hrc hn hst hR hcat hP hS hls) hS (fun q _ h => sx_sub_A C hB hS q h) (sx_sub_A C hB hS) (fun v u H1 locs1 hq hP1 _ _ hS1 => kk v u hq H1 locs1 ls hP1 hS1 hls) (fun E ce q9 u H1 locs1 hx hP1 _ _ hS1 h1 h2 h3 => ?_)
  exact vx_out (fun x hx => (ht x hx).elim) C.2.2.2.2.2.2.1 h1 h2 h3 (fun t htt _ => ⟨u, kx E u hx, by rw [htt]; exact hP1, hS1.F htt⟩) hS1.2.2 hmc.1 hmc.2
theorem sx_callS (C : sx_Cx p l s m args meth c D G A cc nL own) (ht : ∀ x ∈ c.exceptionTable.toList, False) (hB : ∀ k, k < n → A (b + k)) {y : MethodName} {bytes : ByteArray} {maxL index na fr lo mc ms mc0 ms0 : Nat} {ret : Option FieldType} {As : List Value} {st0 : List Value} {Qv Qv0 : Option Value → sx_F → Prop} {X X0 : String → sx_F → Prop} (d : decode cc pc = .ok (.invokestatic index, 3))
    (ct : sx_Met l D G b n lay y bytes maxL ret fr lo mc ms As f Qv X) (hy : sx_Mi y bytes maxL ret na) (hlink : Cond.methodLink own index y ∈ sx_ws) (hstat : Cond.static y ∈ sx_ws) (hn : As.length = na) (hst : st0 = As.reverse ++ st)
    (hR : (fr + 1 ≤ R.frames ∧ 8 + (maxL + 11) + lo ≤ R.locals) ∧ cells + mc ≤ R.cells ∧ slots + ms ≤ R.slots) (hcat : (st.map fun v => v.category).sum ≤ 8) (hmc : cells + mc ≤ mc0 ∧ slots + ms ≤ ms0) (kx : ∀ E u, X E u → X0 E u) (q : Nat) (hq : pc + 3 = q)
    (kk : ∀ (v : Option Value) (f1 : sx_F), Qv v f1 → sx_J (sx_w G b lay n) p l e R s m args below meth c D A nL (cells + mc) (slots + ms) (sx_fin D (sx_w G b lay n) A below args s mc0 ms0 Qv0 X0) f1 q lv (v.toList ++ st)) :
    sx_J (sx_w G b lay n) p l e R s m args below meth c D A nL cells slots (sx_fin D (sx_w G b lay n) A below args s mc0 ms0 Qv0 X0) f pc lv st0 := by
  subst hq
  intro H locs ls hP hS hls
  refine sx_back (sx_runS C hB d ct hy hlink hstat hn hst hR hcat hP hS hls) hS (fun q _ h => sx_sub_A C hB hS q h) (sx_sub_A C hB hS) (fun v u H1 locs1 hq hP1 _ _ hS1 => kk v u hq H1 locs1 ls hP1 hS1 hls) (fun E ce q9 u H1 locs1 hx hP1 _ _ hS1 h1 h2 h3 => ?_)
  exact vx_out (fun x hx => (ht x hx).elim) C.2.2.2.2.2.2.1 h1 h2 h3 (fun t htt _ => ⟨u, kx E u hx, by rw [htt]; exact hP1, hS1.F htt⟩) hS1.2.2 hmc.1 hmc.2
theorem sx_callSN (C : sx_Cx p l s m args meth c D G A cc nL own) (hB : ∀ k, k < n → A (b + k)) {y : MethodName} {bytes : ByteArray} {maxL index na fr lo : Nat} {host : String} {ret : Option FieldType} {As : List Value} {st0 : List Value} {Qv : Option Value → sx_F → Prop} (d : decode cc pc = .ok (.invokestatic index, 3))
    (ct : sx_MetN l D G b n lay y bytes maxL ret fr lo As f Qv) (hy : sx_Mi y bytes maxL ret na) (hlink : Cond.methodLinkNest own index y host ∈ sx_nw) (hstat : Cond.static y ∈ sx_ws) (hn : As.length = na) (hst : st0 = As.reverse ++ st)
    (hR : (fr + 1 ≤ R.frames ∧ 8 + (maxL + 11) + lo ≤ R.locals) ∧ cells + 0 ≤ R.cells ∧ slots + 0 ≤ R.slots) (hcat : (st.map fun v => v.category).sum ≤ 8) (q : Nat) (hq : pc + 3 = q)
    (kk : ∀ (v : Option Value) (f1 : sx_F), Qv v f1 → sx_J (sx_w G b lay n) p l e R s m args below meth c D A nL cells slots Q f1 q lv (v.toList ++ st)) :
    sx_J (sx_w G b lay n) p l e R s m args below meth c D A nL cells slots Q f pc lv st0 := by
  subst hq
  intro H locs ls hP hS hls
  exact sx_back (sx_runSN C hB d ct hy hlink hstat hn hst hR hcat hP hS hls) hS (fun q _ h => sx_sub_A C hB hS q h) (sx_sub_A C hB hS) (fun v u H1 locs1 hq hP1 _ _ hS1 => kk v u hq H1 locs1 ls hP1 hS1 hls) (fun E ce q9 u H1 locs1 hx hP1 _ _ hS1 h1 h2 h3 => hx.elim)
end SC
end
section
def lyX : Nat → sx_K := fun k => ([.inr (.inr (6, [some (some 1), some (some 8), some (some 19), some (some 65), some (some 98), none, none])), .inr (.inr (4, [none, some (some 2), some (some 3), some (some 4), some (some 5), some (some 6), some (some 7)])), .inl 12, .inl 13, .inl 60, .inl 60, .inl 480, .inl 480, .inr (.inr (0, [some (some 1), some (some 9), none, none, some (some 14), some (some 15), some (some 16), some (some 17), some (some 18)])), .inr (.inr (5, [none, some (some 10), some (some 11), some (some 12), some (some 13)])), .inl 32, .inl 33, .inl 33, .inl 32, .inl 12, .inl 12, .inl 12, .inl 13, .inl 13, .inr (.inr (3, [some (some 8), none, none, some (some 20), some (some 21), some (some 35), some (some 49), none, none, some (some 63), some (some 64)])), .inl 13, .inr (.inl (2, 13, fun i => some (22 + i))), .inl 6, .inl 6, .inl 6, .inl 6, .inl 6, .inl 6, .inl 6, .inl 6, .inl 6, .inl 6, .inl 6, .inl 6, .inl 6, .inr (.inl (2, 13, fun i => some (36 + i))), .inl 6, .inl 6, .inl 6, .inl 6, .inl 6, .inl 6, .inl 6, .inl 6, .inl 6, .inl 6, .inl 6, .inl 6, .inl 6, .inr (.inl (2, 13, fun i => some (50 + i))), .inl 6, .inl 6, .inl 6, .inl 6, .inl 6, .inl 6, .inl 6, .inl 6, .inl 6, .inl 6, .inl 6, .inl 6, .inl 6, .inl 13, .inl 12, .inr (.inl (0, 16, fun i => some (66 + 2 * i))), .inr (.inr (1, [some (some 1), none, none, some (some 67)])), .inl 12, .inr (.inr (1, [some (some 1), none, none, some (some 69)])), .inl 12, .inr (.inr (1, [some (some 1), none, none, some (some 71)])), .inl 12, .inr (.inr (1, [some (some 1), none, none, some (some 73)])), .inl 12, .inr (.inr (1, [some (some 1), none, none, some (some 75)])), .inl 12, .inr (.inr (1, [some (some 1), none, none, some (some 77)])), .inl 12, .inr (.inr (1, [some (some 1), none, none, some (some 79)])), .inl 12, .inr (.inr (1, [some (some 1), none, none, some (some 81)])), .inl 12, .inr (.inr (1, [some (some 1), none, none, some (some 83)])), .inl 12, .inr (.inr (1, [some (some 1), none, none, some (some 85)])), .inl 12, .inr (.inr (1, [some (some 1), none, none, some (some 87)])), .inl 12, .inr (.inr (1, [some (some 1), none, none, some (some 89)])), .inl 12, .inr (.inr (1, [some (some 1), none, none, some (some 91)])), .inl 12, .inr (.inr (1, [some (some 1), none, none, some (some 93)])), .inl 12, .inr (.inr (1, [some (some 1), none, none, some (some 95)])), .inl 12, .inr (.inr (1, [some (some 1), none, none, some (some 97)])), .inl 12, .inr (.inl (1, 6, fun i => some (99 + 5 * i))), .inr (.inr (2, [some (some 100), some (some 101), some (some 102), some (some 103)])), .inl 60, .inl 60, .inl 60, .inl 60, .inr (.inr (2, [some (some 105), some (some 106), some (some 107), some (some 108)])), .inl 60, .inl 60, .inl 60, .inl 60, .inr (.inr (2, [some (some 110), some (some 111), some (some 112), some (some 113)])), .inl 60, .inl 60, .inl 60, .inl 60, .inr (.inr (2, [some (some 115), some (some 116), some (some 117), some (some 118)])), .inl 60, .inl 60, .inl 60, .inl 60, .inr (.inr (2, [some (some 120), some (some 121), some (some 122), some (some 123)])), .inl 60, .inl 60, .inl 60, .inl 60, .inr (.inr (2, [some (some 125), some (some 126), some (some 127), some (some 128)])), .inl 60, .inl 60, .inl 60, .inl 60] : List sx_K).getD k (.inl 0)
theorem lyX_0 : lyX 0 = .inr (.inr (6, [some (some 1), some (some 8), some (some 19), some (some 65), some (some 98), none, none])) := rfl
theorem lyX_1 : lyX 1 = .inr (.inr (4, [none, some (some 2), some (some 3), some (some 4), some (some 5), some (some 6), some (some 7)])) := rfl
theorem lyX_2 : lyX 2 = .inl 12 := rfl
theorem lyX_3 : lyX 3 = .inl 13 := rfl
theorem lyX_4 : lyX 4 = .inl 60 := rfl
theorem lyX_5 : lyX 5 = .inl 60 := rfl
theorem lyX_6 : lyX 6 = .inl 480 := rfl
theorem lyX_7 : lyX 7 = .inl 480 := rfl
theorem lyX_8 : lyX 8 = .inr (.inr (0, [some (some 1), some (some 9), none, none, some (some 14), some (some 15), some (some 16), some (some 17), some (some 18)])) := rfl
theorem lyX_9 : lyX 9 = .inr (.inr (5, [none, some (some 10), some (some 11), some (some 12), some (some 13)])) := rfl
theorem lyX_10 : lyX 10 = .inl 32 := rfl
theorem lyX_11 : lyX 11 = .inl 33 := rfl
theorem lyX_12 : lyX 12 = .inl 33 := rfl
theorem lyX_13 : lyX 13 = .inl 32 := rfl
theorem lyX_14 : lyX 14 = .inl 12 := rfl
theorem lyX_15 : lyX 15 = .inl 12 := rfl
theorem lyX_16 : lyX 16 = .inl 12 := rfl
theorem lyX_17 : lyX 17 = .inl 13 := rfl
theorem lyX_18 : lyX 18 = .inl 13 := rfl
theorem lyX_19 : lyX 19 = .inr (.inr (3, [some (some 8), none, none, some (some 20), some (some 21), some (some 35), some (some 49), none, none, some (some 63), some (some 64)])) := rfl
theorem lyX_20 : lyX 20 = .inl 13 := rfl
theorem lyX_21 : lyX 21 = .inr (.inl (2, 13, fun i => some (22 + i))) := rfl
theorem lyX_22 : lyX 22 = .inl 6 := rfl
theorem lyX_23 : lyX 23 = .inl 6 := rfl
theorem lyX_24 : lyX 24 = .inl 6 := rfl
theorem lyX_25 : lyX 25 = .inl 6 := rfl
theorem lyX_26 : lyX 26 = .inl 6 := rfl
theorem lyX_27 : lyX 27 = .inl 6 := rfl
theorem lyX_28 : lyX 28 = .inl 6 := rfl
theorem lyX_29 : lyX 29 = .inl 6 := rfl
theorem lyX_30 : lyX 30 = .inl 6 := rfl
theorem lyX_31 : lyX 31 = .inl 6 := rfl
theorem lyX_32 : lyX 32 = .inl 6 := rfl
theorem lyX_33 : lyX 33 = .inl 6 := rfl
theorem lyX_34 : lyX 34 = .inl 6 := rfl
theorem lyX_35 : lyX 35 = .inr (.inl (2, 13, fun i => some (36 + i))) := rfl
theorem lyX_36 : lyX 36 = .inl 6 := rfl
theorem lyX_37 : lyX 37 = .inl 6 := rfl
theorem lyX_38 : lyX 38 = .inl 6 := rfl
theorem lyX_39 : lyX 39 = .inl 6 := rfl
theorem lyX_40 : lyX 40 = .inl 6 := rfl
theorem lyX_41 : lyX 41 = .inl 6 := rfl
theorem lyX_42 : lyX 42 = .inl 6 := rfl
theorem lyX_43 : lyX 43 = .inl 6 := rfl
theorem lyX_44 : lyX 44 = .inl 6 := rfl
theorem lyX_45 : lyX 45 = .inl 6 := rfl
theorem lyX_46 : lyX 46 = .inl 6 := rfl
theorem lyX_47 : lyX 47 = .inl 6 := rfl
theorem lyX_48 : lyX 48 = .inl 6 := rfl
theorem lyX_49 : lyX 49 = .inr (.inl (2, 13, fun i => some (50 + i))) := rfl
theorem lyX_50 : lyX 50 = .inl 6 := rfl
theorem lyX_51 : lyX 51 = .inl 6 := rfl
theorem lyX_52 : lyX 52 = .inl 6 := rfl
theorem lyX_53 : lyX 53 = .inl 6 := rfl
theorem lyX_54 : lyX 54 = .inl 6 := rfl
theorem lyX_55 : lyX 55 = .inl 6 := rfl
theorem lyX_56 : lyX 56 = .inl 6 := rfl
theorem lyX_57 : lyX 57 = .inl 6 := rfl
theorem lyX_58 : lyX 58 = .inl 6 := rfl
theorem lyX_59 : lyX 59 = .inl 6 := rfl
theorem lyX_60 : lyX 60 = .inl 6 := rfl
theorem lyX_61 : lyX 61 = .inl 6 := rfl
theorem lyX_62 : lyX 62 = .inl 6 := rfl
theorem lyX_63 : lyX 63 = .inl 13 := rfl
theorem lyX_64 : lyX 64 = .inl 12 := rfl
theorem lyX_65 : lyX 65 = .inr (.inl (0, 16, fun i => some (66 + 2 * i))) := rfl
theorem lyX_66 : lyX 66 = .inr (.inr (1, [some (some 1), none, none, some (some 67)])) := rfl
theorem lyX_67 : lyX 67 = .inl 12 := rfl
theorem lyX_68 : lyX 68 = .inr (.inr (1, [some (some 1), none, none, some (some 69)])) := rfl
theorem lyX_69 : lyX 69 = .inl 12 := rfl
theorem lyX_70 : lyX 70 = .inr (.inr (1, [some (some 1), none, none, some (some 71)])) := rfl
theorem lyX_71 : lyX 71 = .inl 12 := rfl
theorem lyX_72 : lyX 72 = .inr (.inr (1, [some (some 1), none, none, some (some 73)])) := rfl
theorem lyX_73 : lyX 73 = .inl 12 := rfl
theorem lyX_74 : lyX 74 = .inr (.inr (1, [some (some 1), none, none, some (some 75)])) := rfl
theorem lyX_75 : lyX 75 = .inl 12 := rfl
theorem lyX_76 : lyX 76 = .inr (.inr (1, [some (some 1), none, none, some (some 77)])) := rfl
theorem lyX_77 : lyX 77 = .inl 12 := rfl
theorem lyX_78 : lyX 78 = .inr (.inr (1, [some (some 1), none, none, some (some 79)])) := rfl
theorem lyX_79 : lyX 79 = .inl 12 := rfl
theorem lyX_80 : lyX 80 = .inr (.inr (1, [some (some 1), none, none, some (some 81)])) := rfl
theorem lyX_81 : lyX 81 = .inl 12 := rfl
theorem lyX_82 : lyX 82 = .inr (.inr (1, [some (some 1), none, none, some (some 83)])) := rfl
theorem lyX_83 : lyX 83 = .inl 12 := rfl
theorem lyX_84 : lyX 84 = .inr (.inr (1, [some (some 1), none, none, some (some 85)])) := rfl
theorem lyX_85 : lyX 85 = .inl 12 := rfl
theorem lyX_86 : lyX 86 = .inr (.inr (1, [some (some 1), none, none, some (some 87)])) := rfl
theorem lyX_87 : lyX 87 = .inl 12 := rfl
theorem lyX_88 : lyX 88 = .inr (.inr (1, [some (some 1), none, none, some (some 89)])) := rfl
theorem lyX_89 : lyX 89 = .inl 12 := rfl
theorem lyX_90 : lyX 90 = .inr (.inr (1, [some (some 1), none, none, some (some 91)])) := rfl
theorem lyX_91 : lyX 91 = .inl 12 := rfl
theorem lyX_92 : lyX 92 = .inr (.inr (1, [some (some 1), none, none, some (some 93)])) := rfl
theorem lyX_93 : lyX 93 = .inl 12 := rfl
theorem lyX_94 : lyX 94 = .inr (.inr (1, [some (some 1), none, none, some (some 95)])) := rfl
theorem lyX_95 : lyX 95 = .inl 12 := rfl
theorem lyX_96 : lyX 96 = .inr (.inr (1, [some (some 1), none, none, some (some 97)])) := rfl
theorem lyX_97 : lyX 97 = .inl 12 := rfl
theorem lyX_98 : lyX 98 = .inr (.inl (1, 6, fun i => some (99 + 5 * i))) := rfl
theorem lyX_99 : lyX 99 = .inr (.inr (2, [some (some 100), some (some 101), some (some 102), some (some 103)])) := rfl
theorem lyX_100 : lyX 100 = .inl 60 := rfl
theorem lyX_101 : lyX 101 = .inl 60 := rfl
theorem lyX_102 : lyX 102 = .inl 60 := rfl
theorem lyX_103 : lyX 103 = .inl 60 := rfl
theorem lyX_104 : lyX 104 = .inr (.inr (2, [some (some 105), some (some 106), some (some 107), some (some 108)])) := rfl
theorem lyX_105 : lyX 105 = .inl 60 := rfl
theorem lyX_106 : lyX 106 = .inl 60 := rfl
theorem lyX_107 : lyX 107 = .inl 60 := rfl
theorem lyX_108 : lyX 108 = .inl 60 := rfl
theorem lyX_109 : lyX 109 = .inr (.inr (2, [some (some 110), some (some 111), some (some 112), some (some 113)])) := rfl
theorem lyX_110 : lyX 110 = .inl 60 := rfl
theorem lyX_111 : lyX 111 = .inl 60 := rfl
theorem lyX_112 : lyX 112 = .inl 60 := rfl
theorem lyX_113 : lyX 113 = .inl 60 := rfl
theorem lyX_114 : lyX 114 = .inr (.inr (2, [some (some 115), some (some 116), some (some 117), some (some 118)])) := rfl
theorem lyX_115 : lyX 115 = .inl 60 := rfl
theorem lyX_116 : lyX 116 = .inl 60 := rfl
theorem lyX_117 : lyX 117 = .inl 60 := rfl
theorem lyX_118 : lyX 118 = .inl 60 := rfl
theorem lyX_119 : lyX 119 = .inr (.inr (2, [some (some 120), some (some 121), some (some 122), some (some 123)])) := rfl
theorem lyX_120 : lyX 120 = .inl 60 := rfl
theorem lyX_121 : lyX 121 = .inl 60 := rfl
theorem lyX_122 : lyX 122 = .inl 60 := rfl
theorem lyX_123 : lyX 123 = .inl 60 := rfl
theorem lyX_124 : lyX 124 = .inr (.inr (2, [some (some 125), some (some 126), some (some 127), some (some 128)])) := rfl
theorem lyX_125 : lyX 125 = .inl 60 := rfl
theorem lyX_126 : lyX 126 = .inl 60 := rfl
theorem lyX_127 : lyX 127 = .inl 60 := rfl
theorem lyX_128 : lyX 128 = .inl 60 := rfl
def isX1 (q : Nat) : Prop := ∃ i : Nat, i < 16 ∧ q = 66 + 2 * i
theorem isX1_ly {q : Nat} (h : isX1 q) : lyX q = .inr (.inr (1, [some (some 1), none, none, some (some (q + 1))])) := by
  obtain ⟨i, hi, rfl⟩ := h
  have h9 : i = 0 ∨ i = 1 ∨ i = 2 ∨ i = 3 ∨ i = 4 ∨ i = 5 ∨ i = 6 ∨ i = 7 ∨ i = 8 ∨ i = 9 ∨ i = 10 ∨ i = 11 ∨ i = 12 ∨ i = 13 ∨ i = 14 ∨ i = 15 := by omega
  rcases h9 with rfl | rfl | rfl | rfl | rfl | rfl | rfl | rfl | rfl | rfl | rfl | rfl | rfl | rfl | rfl | rfl <;> rfl
theorem isX1_lt {q : Nat} (h : isX1 q) : q < 129 := by
  obtain ⟨i, hi, rfl⟩ := h
  omega
theorem isX1_of {i : Int32} {r : Nat} (h : vp_in i 16) (e : r = 66 + 2 * i.toNatClampNeg) : isX1 r := ⟨i.toNatClampNeg, Nat.not_le.mp (fun z => h (Or.inr z)), e⟩
theorem isX1_ly1 {q : Nat} (h : isX1 q) : lyX (q + 1) = .inl 12 := by
  obtain ⟨i, hi, rfl⟩ := h
  have h9 : i = 0 ∨ i = 1 ∨ i = 2 ∨ i = 3 ∨ i = 4 ∨ i = 5 ∨ i = 6 ∨ i = 7 ∨ i = 8 ∨ i = 9 ∨ i = 10 ∨ i = 11 ∨ i = 12 ∨ i = 13 ∨ i = 14 ∨ i = 15 := by omega
  rcases h9 with rfl | rfl | rfl | rfl | rfl | rfl | rfl | rfl | rfl | rfl | rfl | rfl | rfl | rfl | rfl | rfl <;> rfl
theorem isX1_lt1 {q : Nat} (h : isX1 q) : q + 1 < 129 := by
  obtain ⟨i, hi, rfl⟩ := h
  omega
def isX2 (q : Nat) : Prop := ∃ i : Nat, i < 6 ∧ q = 99 + 5 * i
theorem isX2_ly {q : Nat} (h : isX2 q) : lyX q = .inr (.inr (2, [some (some (q + 1)), some (some (q + 2)), some (some (q + 3)), some (some (q + 4))])) := by
  obtain ⟨i, hi, rfl⟩ := h
  have h9 : i = 0 ∨ i = 1 ∨ i = 2 ∨ i = 3 ∨ i = 4 ∨ i = 5 := by omega
  rcases h9 with rfl | rfl | rfl | rfl | rfl | rfl <;> rfl
theorem isX2_lt {q : Nat} (h : isX2 q) : q < 129 := by
  obtain ⟨i, hi, rfl⟩ := h
  omega
theorem isX2_of {i : Int32} {r : Nat} (h : vp_in i 6) (e : r = 99 + 5 * i.toNatClampNeg) : isX2 r := ⟨i.toNatClampNeg, Nat.not_le.mp (fun z => h (Or.inr z)), e⟩
theorem isX2_ly1 {q : Nat} (h : isX2 q) : lyX (q + 1) = .inl 60 := by
  obtain ⟨i, hi, rfl⟩ := h
  have h9 : i = 0 ∨ i = 1 ∨ i = 2 ∨ i = 3 ∨ i = 4 ∨ i = 5 := by omega
  rcases h9 with rfl | rfl | rfl | rfl | rfl | rfl <;> rfl
theorem isX2_lt1 {q : Nat} (h : isX2 q) : q + 1 < 129 := by
  obtain ⟨i, hi, rfl⟩ := h
  omega
theorem isX2_ly2 {q : Nat} (h : isX2 q) : lyX (q + 2) = .inl 60 := by
  obtain ⟨i, hi, rfl⟩ := h
  have h9 : i = 0 ∨ i = 1 ∨ i = 2 ∨ i = 3 ∨ i = 4 ∨ i = 5 := by omega
  rcases h9 with rfl | rfl | rfl | rfl | rfl | rfl <;> rfl
theorem isX2_lt2 {q : Nat} (h : isX2 q) : q + 2 < 129 := by
  obtain ⟨i, hi, rfl⟩ := h
  omega
theorem isX2_ly3 {q : Nat} (h : isX2 q) : lyX (q + 3) = .inl 60 := by
  obtain ⟨i, hi, rfl⟩ := h
  have h9 : i = 0 ∨ i = 1 ∨ i = 2 ∨ i = 3 ∨ i = 4 ∨ i = 5 := by omega
  rcases h9 with rfl | rfl | rfl | rfl | rfl | rfl <;> rfl
theorem isX2_lt3 {q : Nat} (h : isX2 q) : q + 3 < 129 := by
  obtain ⟨i, hi, rfl⟩ := h
  omega
theorem isX2_ly4 {q : Nat} (h : isX2 q) : lyX (q + 4) = .inl 60 := by
  obtain ⟨i, hi, rfl⟩ := h
  have h9 : i = 0 ∨ i = 1 ∨ i = 2 ∨ i = 3 ∨ i = 4 ∨ i = 5 := by omega
  rcases h9 with rfl | rfl | rfl | rfl | rfl | rfl <;> rfl
theorem isX2_lt4 {q : Nat} (h : isX2 q) : q + 4 < 129 := by
  obtain ⟨i, hi, rfl⟩ := h
  omega
theorem rowX_21_ly {i : Int32} {r : Nat} (h : vp_in i 13) (e : r = 22 + i.toNatClampNeg) : lyX r = .inl 6 := by
  have h8 : i.toNatClampNeg < 13 := Nat.not_le.mp (fun z => h (Or.inr z))
  subst e
  have h9 : i.toNatClampNeg = 0 ∨ i.toNatClampNeg = 1 ∨ i.toNatClampNeg = 2 ∨ i.toNatClampNeg = 3 ∨ i.toNatClampNeg = 4 ∨ i.toNatClampNeg = 5 ∨ i.toNatClampNeg = 6 ∨ i.toNatClampNeg = 7 ∨ i.toNatClampNeg = 8 ∨ i.toNatClampNeg = 9 ∨ i.toNatClampNeg = 10 ∨ i.toNatClampNeg = 11 ∨ i.toNatClampNeg = 12 := by omega
  rcases h9 with h9 | h9 | h9 | h9 | h9 | h9 | h9 | h9 | h9 | h9 | h9 | h9 | h9 <;> (rw [h9]; rfl)
theorem rowX_21_lt {i : Int32} {r : Nat} (h : vp_in i 13) (e : r = 22 + i.toNatClampNeg) : r < 129 := by
  have h8 : i.toNatClampNeg < 13 := Nat.not_le.mp (fun z => h (Or.inr z))
  omega
theorem rowX_35_ly {i : Int32} {r : Nat} (h : vp_in i 13) (e : r = 36 + i.toNatClampNeg) : lyX r = .inl 6 := by
  have h8 : i.toNatClampNeg < 13 := Nat.not_le.mp (fun z => h (Or.inr z))
  subst e
  have h9 : i.toNatClampNeg = 0 ∨ i.toNatClampNeg = 1 ∨ i.toNatClampNeg = 2 ∨ i.toNatClampNeg = 3 ∨ i.toNatClampNeg = 4 ∨ i.toNatClampNeg = 5 ∨ i.toNatClampNeg = 6 ∨ i.toNatClampNeg = 7 ∨ i.toNatClampNeg = 8 ∨ i.toNatClampNeg = 9 ∨ i.toNatClampNeg = 10 ∨ i.toNatClampNeg = 11 ∨ i.toNatClampNeg = 12 := by omega
  rcases h9 with h9 | h9 | h9 | h9 | h9 | h9 | h9 | h9 | h9 | h9 | h9 | h9 | h9 <;> (rw [h9]; rfl)
theorem rowX_35_lt {i : Int32} {r : Nat} (h : vp_in i 13) (e : r = 36 + i.toNatClampNeg) : r < 129 := by
  have h8 : i.toNatClampNeg < 13 := Nat.not_le.mp (fun z => h (Or.inr z))
  omega
theorem rowX_49_ly {i : Int32} {r : Nat} (h : vp_in i 13) (e : r = 50 + i.toNatClampNeg) : lyX r = .inl 6 := by
  have h8 : i.toNatClampNeg < 13 := Nat.not_le.mp (fun z => h (Or.inr z))
  subst e
  have h9 : i.toNatClampNeg = 0 ∨ i.toNatClampNeg = 1 ∨ i.toNatClampNeg = 2 ∨ i.toNatClampNeg = 3 ∨ i.toNatClampNeg = 4 ∨ i.toNatClampNeg = 5 ∨ i.toNatClampNeg = 6 ∨ i.toNatClampNeg = 7 ∨ i.toNatClampNeg = 8 ∨ i.toNatClampNeg = 9 ∨ i.toNatClampNeg = 10 ∨ i.toNatClampNeg = 11 ∨ i.toNatClampNeg = 12 := by omega
  rcases h9 with h9 | h9 | h9 | h9 | h9 | h9 | h9 | h9 | h9 | h9 | h9 | h9 | h9 <;> (rw [h9]; rfl)
theorem rowX_49_lt {i : Int32} {r : Nat} (h : vp_in i 13) (e : r = 50 + i.toNatClampNeg) : r < 129 := by
  have h8 : i.toNatClampNeg < 13 := Nat.not_le.mp (fun z => h (Or.inr z))
  omega
def lyM : Nat → sx_K := fun k => ([.inr (.inr (7, [some (some 1), some (some 2), some (some 3), some (some 4), some (some 5), none, none, none, some (some 6), some (some 7), some (some 8), none, none, some (some 9), some (some 10), some (some 11), some (some 12), some (some 13), some (some 14), some (some 15), none, some (some 16), some (some 17), some (some 18), some (some 19), some (some 20), some (some 21), some (some 22), some (some 23), some (some 24), some (some 25), none, none, none])), .inl 12, .inl 480, .inl 480, .inl 60, .inl 60, .inl 16, .inl 16, .inl 192, .inl 360, .inl 360, .inl 2880, .inl 2880, .inl 12, .inl 12, .inl 12, .inl 13, .inl 400, .inl 400, .inl 400, .inl 12, .inl 12, .inl 78, .inl 78, .inl 78, .inl 12] : List sx_K).getD k (.inl 0)
theorem lyM_0 : lyM 0 = .inr (.inr (7, [some (some 1), some (some 2), some (some 3), some (some 4), some (some 5), none, none, none, some (some 6), some (some 7), some (some 8), none, none, some (some 9), some (some 10), some (some 11), some (some 12), some (some 13), some (some 14), some (some 15), none, some (some 16), some (some 17), some (some 18), some (some 19), some (some 20), some (some 21), some (some 22), some (some 23), some (some 24), some (some 25), none, none, none])) := rfl
theorem lyM_1 : lyM 1 = .inl 12 := rfl
theorem lyM_2 : lyM 2 = .inl 480 := rfl
theorem lyM_3 : lyM 3 = .inl 480 := rfl
theorem lyM_4 : lyM 4 = .inl 60 := rfl
theorem lyM_5 : lyM 5 = .inl 60 := rfl
theorem lyM_6 : lyM 6 = .inl 16 := rfl
theorem lyM_7 : lyM 7 = .inl 16 := rfl
theorem lyM_8 : lyM 8 = .inl 192 := rfl
theorem lyM_9 : lyM 9 = .inl 360 := rfl
theorem lyM_10 : lyM 10 = .inl 360 := rfl
theorem lyM_11 : lyM 11 = .inl 2880 := rfl
theorem lyM_12 : lyM 12 = .inl 2880 := rfl
theorem lyM_13 : lyM 13 = .inl 12 := rfl
theorem lyM_14 : lyM 14 = .inl 12 := rfl
theorem lyM_15 : lyM 15 = .inl 12 := rfl
theorem lyM_16 : lyM 16 = .inl 13 := rfl
theorem lyM_17 : lyM 17 = .inl 400 := rfl
theorem lyM_18 : lyM 18 = .inl 400 := rfl
theorem lyM_19 : lyM 19 = .inl 400 := rfl
theorem lyM_20 : lyM 20 = .inl 12 := rfl
theorem lyM_21 : lyM 21 = .inl 12 := rfl
theorem lyM_22 : lyM 22 = .inl 78 := rfl
theorem lyM_23 : lyM 23 = .inl 78 := rfl
theorem lyM_24 : lyM 24 = .inl 78 := rfl
theorem lyM_25 : lyM 25 = .inl 12 := rfl
end
section
theorem mi_X6_slotOf : sx_Mi yX6_slotOf cX6_slotOf 2 (some .int) 2 := ⟨sx_wm 444 (by decide +kernel) rfl, sx_wm 56 (by decide +kernel) rfl, by decide, by decide, by decide +kernel⟩
theorem mt_X6_slotOf : Cond.static yX6_slotOf ∈ sx_ws := sx_wm 443 (by decide +kernel) rfl
theorem fl_X4_27 : Cond.fieldLink RX4 27 RX4 "notePitches" "[I" ∈ sx_ws := sx_wm 103 (by decide +kernel) rfl
theorem inw_X4 : ∀ w ∈ u_ws RX4 TX4 7, w ∈ sx_ws := by decide +kernel
theorem mi_X4_pitchAt : sx_Mi yX4_pitchAt cX4_pitchAt 3 (some .int) 2 := ⟨sx_wm 623 (by decide +kernel) rfl, sx_wm 57 (by decide +kernel) rfl, by decide, by decide, by decide +kernel⟩
theorem mn_X4_pitchAt : Cond.instanceMethod yX4_pitchAt ∈ sx_ws := sx_wm 621 (by decide +kernel) rfl
theorem ms_X4_pitchAt : Cond.selects yX4_pitchAt.cls yX4_pitchAt yX4_pitchAt ∈ sx_ws := sx_wm 622 (by decide +kernel) rfl
theorem fl_X4_21 : Cond.fieldLink RX4 21 RX4 "noteCounts" "[I" ∈ sx_ws := sx_wm 99 (by decide +kernel) rfl
theorem lk_X4_41 : Cond.methodLink RX4 41 yX4_pitchAt ∈ sx_ws := sx_wm 673 (by decide +kernel) rfl
theorem lkn_X4_38 : Cond.methodLinkNest RX4 38 yX6_slotOf RX6 ∈ sx_nw := sx_nm 672 (by decide +kernel) rfl
theorem mi_X4_isSilent : sx_Mi yX4_isSilent cX4_isSilent 5 (some .boolean) 2 := ⟨sx_wm 671 (by decide +kernel) rfl, sx_wm 57 (by decide +kernel) rfl, by decide, by decide, by decide +kernel⟩
theorem mn_X4_isSilent : Cond.instanceMethod yX4_isSilent ∈ sx_ws := sx_wm 669 (by decide +kernel) rfl
theorem ms_X4_isSilent : Cond.selects yX4_isSilent.cls yX4_isSilent yX4_isSilent ∈ sx_ws := sx_wm 670 (by decide +kernel) rfl
theorem lk_X4_44 : Cond.methodLink RX4 44 yX4_isSilent ∈ sx_ws := sx_wm 678 (by decide +kernel) rfl
theorem fl_X4_30 : Cond.fieldLink RX4 30 RX4 "barCount" "I" ∈ sx_ws := sx_wm 86 (by decide +kernel) rfl
theorem mi_X4_cuePlayer : sx_Mi yX4_cuePlayer cX4_cuePlayer 8 (some .int) 2 := ⟨sx_wm 677 (by decide +kernel) rfl, sx_wm 57 (by decide +kernel) rfl, by decide, by decide, by decide +kernel⟩
theorem mn_X4_cuePlayer : Cond.instanceMethod yX4_cuePlayer ∈ sx_ws := sx_wm 675 (by decide +kernel) rfl
theorem ms_X4_cuePlayer : Cond.selects yX4_cuePlayer.cls yX4_cuePlayer yX4_cuePlayer ∈ sx_ws := sx_wm 676 (by decide +kernel) rfl
theorem fl_X0_38 : Cond.fieldLink RX0 38 RX0 "number" "I" ∈ sx_ws := sx_wm 154 (by decide +kernel) rfl
theorem inw_X0 : ∀ w ∈ u_ws RX0 TX0 9, w ∈ sx_ws := by decide +kernel
theorem fl_X0_34 : Cond.fieldLink RX0 34 RX0 "score" "LStavehouse$Score;" ∈ sx_ws := sx_wm 150 (by decide +kernel) rfl
theorem lk_X0_58 : Cond.methodLink RX0 58 yX4_isSilent ∈ sx_ws := sx_wm 668 (by decide +kernel) rfl
theorem lk_X0_62 : Cond.methodLink RX0 62 yX4_cuePlayer ∈ sx_ws := sx_wm 674 (by decide +kernel) rfl
theorem mi_X0_drawerOf : sx_Mi yX0_drawerOf cX0_drawerOf 2 (some .int) 1 := ⟨sx_wm 667 (by decide +kernel) rfl, sx_wm 58 (by decide +kernel) rfl, by decide, by decide, by decide +kernel⟩
theorem mn_X0_drawerOf : Cond.instanceMethod yX0_drawerOf ∈ sx_ws := sx_wm 666 (by decide +kernel) rfl
theorem ms_X0_drawerOf : Cond.selects yX0_drawerOf.cls yX0_drawerOf yX0_drawerOf ∈ sx_ws := sx_wm 8 (by decide +kernel) rfl
theorem fl_X5_9 : Cond.fieldLink RX5 9 RX5 "starts" "[I" ∈ sx_ws := sx_wm 133 (by decide +kernel) rfl
theorem inw_X5 : ∀ w ∈ u_ws RX5 TX5 5, w ∈ sx_ws := by decide +kernel
theorem fl_X5_24 : Cond.fieldLink RX5 24 RX5 "springCount" "I" ∈ sx_ws := sx_wm 132 (by decide +kernel) rfl
theorem fl_X5_15 : Cond.fieldLink RX5 15 RX5 "widthSums" "[I" ∈ sx_ws := sx_wm 134 (by decide +kernel) rfl
theorem fl_X5_18 : Cond.fieldLink RX5 18 RX5 "leastSums" "[I" ∈ sx_ws := sx_wm 136 (by decide +kernel) rfl
theorem mi_X5_addSpring : sx_Mi yX5_addSpring cX5_addSpring 4 (none) 3 := ⟨sx_wm 690 (by decide +kernel) rfl, sx_wm 59 (by decide +kernel) rfl, by decide, by decide, by decide +kernel⟩
theorem mn_X5_addSpring : Cond.instanceMethod yX5_addSpring ∈ sx_ws := sx_wm 689 (by decide +kernel) rfl
theorem ms_X5_addSpring : Cond.selects yX5_addSpring.cls yX5_addSpring yX5_addSpring ∈ sx_ws := sx_wm 10 (by decide +kernel) rfl
theorem mi_J7_fill_53178 : sx_Mi yJ7_fill_53178 cJ7_fill_53178 4 (none) 2 := ⟨sx_wm 693 (by decide +kernel) rfl, sx_wm 70 (by decide +kernel) rfl, by decide, by decide, by decide +kernel⟩
theorem mt_J7_fill_53178 : Cond.static yJ7_fill_53178 ∈ sx_ws := sx_wm 692 (by decide +kernel) rfl
theorem fl_X5_21 : Cond.fieldLink RX5 21 RX5 "sounding" "[I" ∈ sx_ws := sx_wm 138 (by decide +kernel) rfl
theorem mi_X5_addPlace : sx_Mi yX5_addPlace cX5_addPlace 3 (none) 2 := ⟨sx_wm 703 (by decide +kernel) rfl, sx_wm 59 (by decide +kernel) rfl, by decide, by decide, by decide +kernel⟩
theorem mn_X5_addPlace : Cond.instanceMethod yX5_addPlace ∈ sx_ws := sx_wm 702 (by decide +kernel) rfl
theorem ms_X5_addPlace : Cond.selects yX5_addPlace.cls yX5_addPlace yX5_addPlace ∈ sx_ws := sx_wm 12 (by decide +kernel) rfl
theorem fl_X4_24 : Cond.fieldLink RX4 24 RX4 "noteLengths" "[I" ∈ sx_ws := sx_wm 102 (by decide +kernel) rfl
theorem mi_X4_lengthAt : sx_Mi yX4_lengthAt cX4_lengthAt 3 (some .int) 2 := ⟨sx_wm 453 (by decide +kernel) rfl, sx_wm 57 (by decide +kernel) rfl, by decide, by decide, by decide +kernel⟩
theorem mn_X4_lengthAt : Cond.instanceMethod yX4_lengthAt ∈ sx_ws := sx_wm 451 (by decide +kernel) rfl
theorem ms_X4_lengthAt : Cond.selects yX4_lengthAt.cls yX4_lengthAt yX4_lengthAt ∈ sx_ws := sx_wm 452 (by decide +kernel) rfl
theorem fln_X5_55 : Cond.fieldLinkNest RX5 55 RX4 "noteCounts" "[I" RX6 ∈ sx_nw := sx_nm 100 (by decide +kernel) rfl
theorem lk_X5_58 : Cond.methodLink RX5 58 yX4_pitchAt ∈ sx_ws := sx_wm 699 (by decide +kernel) rfl
theorem lk_X5_61 : Cond.methodLink RX5 61 yX5_addPlace ∈ sx_ws := sx_wm 700 (by decide +kernel) rfl
theorem lk_X5_65 : Cond.methodLink RX5 65 yX4_lengthAt ∈ sx_ws := sx_wm 704 (by decide +kernel) rfl
theorem mi_X5_addPlaces : sx_Mi yX5_addPlaces cX5_addPlaces 6 (none) 3 := ⟨sx_wm 698 (by decide +kernel) rfl, sx_wm 59 (by decide +kernel) rfl, by decide, by decide, by decide +kernel⟩
theorem mn_X5_addPlaces : Cond.instanceMethod yX5_addPlaces ∈ sx_ws := sx_wm 697 (by decide +kernel) rfl
theorem ms_X5_addPlaces : Cond.selects yX5_addPlaces.cls yX5_addPlaces yX5_addPlaces ∈ sx_ws := sx_wm 11 (by decide +kernel) rfl
theorem mi_X5_nextPlace : sx_Mi yX5_nextPlace cX5_nextPlace 4 (some .int) 2 := ⟨sx_wm 712 (by decide +kernel) rfl, sx_wm 59 (by decide +kernel) rfl, by decide, by decide, by decide +kernel⟩
theorem mn_X5_nextPlace : Cond.instanceMethod yX5_nextPlace ∈ sx_ws := sx_wm 711 (by decide +kernel) rfl
theorem ms_X5_nextPlace : Cond.selects yX5_nextPlace.cls yX5_nextPlace yX5_nextPlace ∈ sx_ws := sx_wm 14 (by decide +kernel) rfl
theorem mi_X5_naturalWidth : sx_Mi yX5_naturalWidth cX5_naturalWidth 3 (some .int) 1 := ⟨sx_wm 715 (by decide +kernel) rfl, sx_wm 59 (by decide +kernel) rfl, by decide, by decide, by decide +kernel⟩
theorem mt_X5_naturalWidth : Cond.static yX5_naturalWidth ∈ sx_ws := sx_wm 714 (by decide +kernel) rfl
theorem lk_X5_68 : Cond.methodLink RX5 68 yX5_nextPlace ∈ sx_ws := sx_wm 709 (by decide +kernel) rfl
theorem lk_X5_71 : Cond.methodLink RX5 71 yX5_naturalWidth ∈ sx_ws := sx_wm 713 (by decide +kernel) rfl
theorem lk_X5_75 : Cond.methodLink RX5 75 Lib.Math.max.name ∈ sx_ws := sx_wm 716 (by decide +kernel) rfl
theorem mth_max : Cond.static Lib.Math.max.name ∈ sx_ws ∧ Cond.initialized "java/lang/Math" ∈ sx_ws ∧ Cond.code Lib.Math.max.name Lib.Math.max.code 2 (some .int) ∈ sx_ws := ⟨sx_wm 717 (by decide +kernel) rfl, sx_wm 71 (by decide +kernel) rfl, sx_wm 718 (by decide +kernel) rfl⟩
theorem lk_X5_28 : Cond.methodLink RX5 28 yX5_addSpring ∈ sx_ws := sx_wm 687 (by decide +kernel) rfl
theorem mi_X5_addSprings : sx_Mi yX5_addSprings cX5_addSprings 5 (none) 1 := ⟨sx_wm 708 (by decide +kernel) rfl, sx_wm 59 (by decide +kernel) rfl, by decide, by decide, by decide +kernel⟩
theorem mn_X5_addSprings : Cond.instanceMethod yX5_addSprings ∈ sx_ws := sx_wm 707 (by decide +kernel) rfl
theorem ms_X5_addSprings : Cond.selects yX5_addSprings.cls yX5_addSprings yX5_addSprings ∈ sx_ws := sx_wm 13 (by decide +kernel) rfl
theorem fln_X5_42 : Cond.fieldLinkNest RX5 42 RX4 "barLengths" "[I" RX6 ∈ sx_nw := sx_nm 91 (by decide +kernel) rfl
theorem lk_X5_51 : Cond.methodLink RX5 51 yX5_addSprings ∈ sx_ws := sx_wm 705 (by decide +kernel) rfl
theorem lkn_X5_38 : Cond.methodLinkNest RX5 38 yX6_slotOf RX6 ∈ sx_nw := sx_nm 694 (by decide +kernel) rfl
theorem lk_X5_47 : Cond.methodLink RX5 47 yX5_addPlaces ∈ sx_ws := sx_wm 695 (by decide +kernel) rfl
theorem lk_X5_32 : Cond.methodLink RX5 32 yJ7_fill_53178 ∈ sx_ws := sx_wm 691 (by decide +kernel) rfl
theorem mi_X5_draw : sx_Mi yX5_draw cX5_draw 5 (none) 3 := ⟨sx_wm 686 (by decide +kernel) rfl, sx_wm 59 (by decide +kernel) rfl, by decide, by decide, by decide +kernel⟩
theorem mn_X5_draw : Cond.instanceMethod yX5_draw ∈ sx_ws := sx_wm 684 (by decide +kernel) rfl
theorem ms_X5_draw : Cond.selects yX5_draw.cls yX5_draw yX5_draw ∈ sx_ws := sx_wm 685 (by decide +kernel) rfl
theorem mi_X5_widthOfAll : sx_Mi yX5_widthOfAll cX5_widthOfAll 1 (some .int) 0 := ⟨sx_wm 722 (by decide +kernel) rfl, sx_wm 59 (by decide +kernel) rfl, by decide, by decide, by decide +kernel⟩
theorem mn_X5_widthOfAll : Cond.instanceMethod yX5_widthOfAll ∈ sx_ws := sx_wm 720 (by decide +kernel) rfl
theorem ms_X5_widthOfAll : Cond.selects yX5_widthOfAll.cls yX5_widthOfAll yX5_widthOfAll ∈ sx_ws := sx_wm 721 (by decide +kernel) rfl
theorem mi_X5_leastOfAll : sx_Mi yX5_leastOfAll cX5_leastOfAll 1 (some .int) 0 := ⟨sx_wm 726 (by decide +kernel) rfl, sx_wm 59 (by decide +kernel) rfl, by decide, by decide, by decide +kernel⟩
theorem mn_X5_leastOfAll : Cond.instanceMethod yX5_leastOfAll ∈ sx_ws := sx_wm 724 (by decide +kernel) rfl
theorem ms_X5_leastOfAll : Cond.selects yX5_leastOfAll.cls yX5_leastOfAll yX5_leastOfAll ∈ sx_ws := sx_wm 725 (by decide +kernel) rfl
theorem fl_X0_18 : Cond.fieldLink RX0 18 RX0 "firstBars" "[I" ∈ sx_ws := sx_wm 159 (by decide +kernel) rfl
theorem fl_X0_42 : Cond.fieldLink RX0 42 RX0 "itemCount" "I" ∈ sx_ws := sx_wm 156 (by decide +kernel) rfl
theorem fl_X0_25 : Cond.fieldLink RX0 25 RX0 "drawers" "[I" ∈ sx_ws := sx_wm 163 (by decide +kernel) rfl
theorem fl_X0_12 : Cond.fieldLink RX0 12 RX0 "springs" "LStavehouse$Springs;" ∈ sx_ws := sx_wm 152 (by decide +kernel) rfl
theorem lk_X0_66 : Cond.methodLink RX0 66 yX5_draw ∈ sx_ws := sx_wm 683 (by decide +kernel) rfl
theorem fl_X0_28 : Cond.fieldLink RX0 28 RX0 "springSums" "[I" ∈ sx_ws := sx_wm 164 (by decide +kernel) rfl
theorem lk_X0_70 : Cond.methodLink RX0 70 yX5_widthOfAll ∈ sx_ws := sx_wm 719 (by decide +kernel) rfl
theorem fl_X0_31 : Cond.fieldLink RX0 31 RX0 "leastSums" "[I" ∈ sx_ws := sx_wm 166 (by decide +kernel) rfl
theorem lk_X0_74 : Cond.methodLink RX0 74 yX5_leastOfAll ∈ sx_ws := sx_wm 723 (by decide +kernel) rfl
theorem mi_X0_addItem : sx_Mi yX0_addItem cX0_addItem 3 (none) 2 := ⟨sx_wm 682 (by decide +kernel) rfl, sx_wm 58 (by decide +kernel) rfl, by decide, by decide, by decide +kernel⟩
theorem mn_X0_addItem : Cond.instanceMethod yX0_addItem ∈ sx_ws := sx_wm 681 (by decide +kernel) rfl
theorem ms_X0_addItem : Cond.selects yX0_addItem.cls yX0_addItem yX0_addItem ∈ sx_ws := sx_wm 9 (by decide +kernel) rfl
theorem fln_X0_45 : Cond.fieldLinkNest RX0 45 RX4 "barCount" "I" RX6 ∈ sx_nw := sx_nm 88 (by decide +kernel) rfl
theorem lk_X0_50 : Cond.methodLink RX0 50 yX0_drawerOf ∈ sx_ws := sx_wm 664 (by decide +kernel) rfl
theorem lk_X0_54 : Cond.methodLink RX0 54 yX0_addItem ∈ sx_ws := sx_wm 679 (by decide +kernel) rfl
theorem fl_X0_22 : Cond.fieldLink RX0 22 RX0 "barItems" "[I" ∈ sx_ws := sx_wm 161 (by decide +kernel) rfl
theorem mi_X0_gather : sx_Mi yX0_gather cX0_gather 5 (none) 1 := ⟨sx_wm 663 (by decide +kernel) rfl, sx_wm 58 (by decide +kernel) rfl, by decide, by decide, by decide +kernel⟩
theorem mn_X0_gather : Cond.instanceMethod yX0_gather ∈ sx_ws := sx_wm 661 (by decide +kernel) rfl
theorem ms_X0_gather : Cond.selects yX0_gather.cls yX0_gather yX0_gather ∈ sx_ws := sx_wm 662 (by decide +kernel) rfl
theorem mi_X5_springFrom : sx_Mi yX5_springFrom cX5_springFrom 3 (some .int) 1 := ⟨sx_wm 873 (by decide +kernel) rfl, sx_wm 59 (by decide +kernel) rfl, by decide, by decide, by decide +kernel⟩
theorem mn_X5_springFrom : Cond.instanceMethod yX5_springFrom ∈ sx_ws := sx_wm 871 (by decide +kernel) rfl
theorem ms_X5_springFrom : Cond.selects yX5_springFrom.cls yX5_springFrom yX5_springFrom ∈ sx_ws := sx_wm 872 (by decide +kernel) rfl
theorem lk_X0_77 : Cond.methodLink RX0 77 yX5_springFrom ∈ sx_ws := sx_wm 870 (by decide +kernel) rfl
theorem mi_X0_drawSpring : sx_Mi yX0_drawSpring cX0_drawSpring 4 (some .int) 2 := ⟨sx_wm 869 (by decide +kernel) rfl, sx_wm 58 (by decide +kernel) rfl, by decide, by decide, by decide +kernel⟩
theorem mn_X0_drawSpring : Cond.instanceMethod yX0_drawSpring ∈ sx_ws := sx_wm 867 (by decide +kernel) rfl
theorem ms_X0_drawSpring : Cond.selects yX0_drawSpring.cls yX0_drawSpring yX0_drawSpring ∈ sx_ws := sx_wm 868 (by decide +kernel) rfl
theorem mi_X0_widthOf : sx_Mi yX0_widthOf cX0_widthOf 3 (some .int) 2 := ⟨sx_wm 752 (by decide +kernel) rfl, sx_wm 58 (by decide +kernel) rfl, by decide, by decide, by decide +kernel⟩
theorem mn_X0_widthOf : Cond.instanceMethod yX0_widthOf ∈ sx_ws := sx_wm 750 (by decide +kernel) rfl
theorem ms_X0_widthOf : Cond.selects yX0_widthOf.cls yX0_widthOf yX0_widthOf ∈ sx_ws := sx_wm 751 (by decide +kernel) rfl
theorem mi_X0_leastOf : sx_Mi yX0_leastOf cX0_leastOf 3 (some .int) 2 := ⟨sx_wm 802 (by decide +kernel) rfl, sx_wm 58 (by decide +kernel) rfl, by decide, by decide, by decide +kernel⟩
theorem mn_X0_leastOf : Cond.instanceMethod yX0_leastOf ∈ sx_ws := sx_wm 800 (by decide +kernel) rfl
theorem ms_X0_leastOf : Cond.selects yX0_leastOf.cls yX0_leastOf yX0_leastOf ∈ sx_ws := sx_wm 801 (by decide +kernel) rfl
theorem fl_X1_9 : Cond.fieldLink RX1 9 RX1 "desk" "I" ∈ sx_ws := sx_wm 244 (by decide +kernel) rfl
theorem inw_X1 : ∀ w ∈ u_ws RX1 TX1 4, w ∈ sx_ws := by decide +kernel
theorem mi_X1_isOut : sx_Mi yX1_isOut cX1_isOut 1 (some .boolean) 0 := ⟨sx_wm 506 (by decide +kernel) rfl, sx_wm 61 (by decide +kernel) rfl, by decide, by decide, by decide +kernel⟩
theorem mn_X1_isOut : Cond.instanceMethod yX1_isOut ∈ sx_ws := sx_wm 504 (by decide +kernel) rfl
theorem ms_X1_isOut : Cond.selects yX1_isOut.cls yX1_isOut yX1_isOut ∈ sx_ws := sx_wm 505 (by decide +kernel) rfl
theorem fl_X1_19 : Cond.fieldLink RX1 19 RX1 "score" "LStavehouse$Score;" ∈ sx_ws := sx_wm 241 (by decide +kernel) rfl
theorem fln_X1_32 : Cond.fieldLinkNest RX1 32 RX4 "barVersions" "[I" RX6 ∈ sx_nw := sx_nm 97 (by decide +kernel) rfl
theorem fl_X1_35 : Cond.fieldLink RX1 35 RX1 "instrument" "I" ∈ sx_ws := sx_wm 242 (by decide +kernel) rfl
theorem lkn_X1_38 : Cond.methodLinkNest RX1 38 yX6_slotOf RX6 ∈ sx_nw := sx_nm 521 (by decide +kernel) rfl
theorem mi_X1_scoreVersion : sx_Mi yX1_scoreVersion cX1_scoreVersion 2 (some .int) 1 := ⟨sx_wm 520 (by decide +kernel) rfl, sx_wm 61 (by decide +kernel) rfl, by decide, by decide, by decide +kernel⟩
theorem mn_X1_scoreVersion : Cond.instanceMethod yX1_scoreVersion ∈ sx_ws := sx_wm 519 (by decide +kernel) rfl
theorem ms_X1_scoreVersion : Cond.selects yX1_scoreVersion.cls yX1_scoreVersion yX1_scoreVersion ∈ sx_ws := sx_wm 3 (by decide +kernel) rfl
theorem fl_X1_15 : Cond.fieldLink RX1 15 RX1 "versions" "[I" ∈ sx_ws := sx_wm 246 (by decide +kernel) rfl
theorem fln_X1_23 : Cond.fieldLinkNest RX1 23 RX4 "barCount" "I" RX6 ∈ sx_nw := sx_nm 89 (by decide +kernel) rfl
theorem lk_X1_28 : Cond.methodLink RX1 28 yX1_scoreVersion ∈ sx_ws := sx_wm 517 (by decide +kernel) rfl
theorem mi_X1_takeVersions : sx_Mi yX1_takeVersions cX1_takeVersions 2 (none) 0 := ⟨sx_wm 516 (by decide +kernel) rfl, sx_wm 61 (by decide +kernel) rfl, by decide, by decide, by decide +kernel⟩
theorem mn_X1_takeVersions : Cond.instanceMethod yX1_takeVersions ∈ sx_ws := sx_wm 514 (by decide +kernel) rfl
theorem ms_X1_takeVersions : Cond.selects yX1_takeVersions.cls yX1_takeVersions yX1_takeVersions ∈ sx_ws := sx_wm 515 (by decide +kernel) rfl
theorem lk_X1_42 : Cond.methodLink RX1 42 yX1_isOut ∈ sx_ws := sx_wm 550 (by decide +kernel) rfl
theorem mi_X1_versionOf : sx_Mi yX1_versionOf cX1_versionOf 2 (some .int) 1 := ⟨sx_wm 549 (by decide +kernel) rfl, sx_wm 61 (by decide +kernel) rfl, by decide, by decide, by decide +kernel⟩
theorem mn_X1_versionOf : Cond.instanceMethod yX1_versionOf ∈ sx_ws := sx_wm 547 (by decide +kernel) rfl
theorem ms_X1_versionOf : Cond.selects yX1_versionOf.cls yX1_versionOf yX1_versionOf ∈ sx_ws := sx_wm 548 (by decide +kernel) rfl
theorem lk_X1_46 : Cond.methodLink RX1 46 yX1_versionOf ∈ sx_ws := sx_wm 546 (by decide +kernel) rfl
theorem mi_X1_lacks : sx_Mi yX1_lacks cX1_lacks 2 (some .boolean) 1 := ⟨sx_wm 568 (by decide +kernel) rfl, sx_wm 61 (by decide +kernel) rfl, by decide, by decide, by decide +kernel⟩
theorem mn_X1_lacks : Cond.instanceMethod yX1_lacks ∈ sx_ws := sx_wm 566 (by decide +kernel) rfl
theorem ms_X1_lacks : Cond.selects yX1_lacks.cls yX1_lacks yX1_lacks ∈ sx_ws := sx_wm 567 (by decide +kernel) rfl
theorem mi_X1_owes : sx_Mi yX1_owes cX1_owes 2 (some .boolean) 1 := ⟨sx_wm 545 (by decide +kernel) rfl, sx_wm 61 (by decide +kernel) rfl, by decide, by decide, by decide +kernel⟩
theorem mn_X1_owes : Cond.instanceMethod yX1_owes ∈ sx_ws := sx_wm 543 (by decide +kernel) rfl
theorem ms_X1_owes : Cond.selects yX1_owes.cls yX1_owes yX1_owes ∈ sx_ws := sx_wm 544 (by decide +kernel) rfl
theorem lk_X1_49 : Cond.methodLink RX1 49 yX1_owes ∈ sx_ws := sx_wm 542 (by decide +kernel) rfl
theorem mi_X1_countDebts : sx_Mi yX1_countDebts cX1_countDebts 3 (some .int) 0 := ⟨sx_wm 541 (by decide +kernel) rfl, sx_wm 61 (by decide +kernel) rfl, by decide, by decide, by decide +kernel⟩
theorem mn_X1_countDebts : Cond.instanceMethod yX1_countDebts ∈ sx_ws := sx_wm 539 (by decide +kernel) rfl
theorem ms_X1_countDebts : Cond.selects yX1_countDebts.cls yX1_countDebts yX1_countDebts ∈ sx_ws := sx_wm 540 (by decide +kernel) rfl
theorem fl_X2_9 : Cond.fieldLink RX2 9 RX2 "signs" "[I" ∈ sx_ws := sx_wm 263 (by decide +kernel) rfl
theorem inw_X2 : ∀ w ∈ u_ws RX2 TX2 4, w ∈ sx_ws := by decide +kernel
theorem fl_X2_15 : Cond.fieldLink RX2 15 RX2 "markVersions" "[I" ∈ sx_ws := sx_wm 265 (by decide +kernel) rfl
theorem mi_X2_changeMark : sx_Mi yX2_changeMark cX2_changeMark 5 (some .int) 3 := ⟨sx_wm 574 (by decide +kernel) rfl, sx_wm 62 (by decide +kernel) rfl, by decide, by decide, by decide +kernel⟩
theorem mn_X2_changeMark : Cond.instanceMethod yX2_changeMark ∈ sx_ws := sx_wm 572 (by decide +kernel) rfl
theorem ms_X2_changeMark : Cond.selects yX2_changeMark.cls yX2_changeMark yX2_changeMark ∈ sx_ws := sx_wm 573 (by decide +kernel) rfl
theorem fln_X2_24 : Cond.fieldLinkNest RX2 24 RX4 "barVersions" "[I" RX6 ∈ sx_nw := sx_nm 96 (by decide +kernel) rfl
theorem mi_X2_countOldMarks : sx_Mi yX2_countOldMarks cX2_countOldMarks 4 (some .int) 1 := ⟨sx_wm 925 (by decide +kernel) rfl, sx_wm 62 (by decide +kernel) rfl, by decide, by decide, by decide +kernel⟩
theorem mn_X2_countOldMarks : Cond.instanceMethod yX2_countOldMarks ∈ sx_ws := sx_wm 923 (by decide +kernel) rfl
theorem ms_X2_countOldMarks : Cond.selects yX2_countOldMarks.cls yX2_countOldMarks yX2_countOldMarks ∈ sx_ws := sx_wm 924 (by decide +kernel) rfl
theorem fl_X2_21 : Cond.fieldLink RX2 21 RX2 "bowVersions" "[I" ∈ sx_ws := sx_wm 267 (by decide +kernel) rfl
theorem fl_X2_18 : Cond.fieldLink RX2 18 RX2 "bowings" "[I" ∈ sx_ws := sx_wm 266 (by decide +kernel) rfl
theorem mi_X2_bowingAt : sx_Mi yX2_bowingAt cX2_bowingAt 4 (some .int) 3 := ⟨sx_wm 591 (by decide +kernel) rfl, sx_wm 62 (by decide +kernel) rfl, by decide, by decide, by decide +kernel⟩
theorem mn_X2_bowingAt : Cond.instanceMethod yX2_bowingAt ∈ sx_ws := sx_wm 589 (by decide +kernel) rfl
theorem ms_X2_bowingAt : Cond.selects yX2_bowingAt.cls yX2_bowingAt yX2_bowingAt ∈ sx_ws := sx_wm 590 (by decide +kernel) rfl
theorem lk_X2_29 : Cond.methodLink RX2 29 yX2_bowingAt ∈ sx_ws := sx_wm 588 (by decide +kernel) rfl
theorem mi_X2_changeBowing : sx_Mi yX2_changeBowing cX2_changeBowing 6 (some .int) 4 := ⟨sx_wm 587 (by decide +kernel) rfl, sx_wm 62 (by decide +kernel) rfl, by decide, by decide, by decide +kernel⟩
theorem mn_X2_changeBowing : Cond.instanceMethod yX2_changeBowing ∈ sx_ws := sx_wm 585 (by decide +kernel) rfl
theorem ms_X2_changeBowing : Cond.selects yX2_changeBowing.cls yX2_changeBowing yX2_changeBowing ∈ sx_ws := sx_wm 586 (by decide +kernel) rfl
theorem fl_X4_9 : Cond.fieldLink RX4 9 RX4 "barLengths" "[I" ∈ sx_ws := sx_wm 90 (by decide +kernel) rfl
theorem lk_X4_34 : Cond.methodLink RX4 34 yX4_lengthAt ∈ sx_ws := sx_wm 450 (by decide +kernel) rfl
theorem mi_X4_silenceAtEnd : sx_Mi yX4_silenceAtEnd cX4_silenceAtEnd 7 (some .int) 2 := ⟨sx_wm 780 (by decide +kernel) rfl, sx_wm 57 (by decide +kernel) rfl, by decide, by decide, by decide +kernel⟩
theorem mn_X4_silenceAtEnd : Cond.instanceMethod yX4_silenceAtEnd ∈ sx_ws := sx_wm 779 (by decide +kernel) rfl
theorem ms_X4_silenceAtEnd : Cond.selects yX4_silenceAtEnd.cls yX4_silenceAtEnd yX4_silenceAtEnd ∈ sx_ws := sx_wm 17 (by decide +kernel) rfl
theorem mi_X4_silenceAtBeginning : sx_Mi yX4_silenceAtBeginning cX4_silenceAtBeginning 6 (some .int) 2 := ⟨sx_wm 784 (by decide +kernel) rfl, sx_wm 57 (by decide +kernel) rfl, by decide, by decide, by decide +kernel⟩
theorem mn_X4_silenceAtBeginning : Cond.instanceMethod yX4_silenceAtBeginning ∈ sx_ws := sx_wm 783 (by decide +kernel) rfl
theorem ms_X4_silenceAtBeginning : Cond.selects yX4_silenceAtBeginning.cls yX4_silenceAtBeginning yX4_silenceAtBeginning ∈ sx_ws := sx_wm 18 (by decide +kernel) rfl
theorem lk_X4_48 : Cond.methodLink RX4 48 yX4_silenceAtEnd ∈ sx_ws := sx_wm 777 (by decide +kernel) rfl
theorem lk_X4_51 : Cond.methodLink RX4 51 yX4_silenceAtBeginning ∈ sx_ws := sx_wm 781 (by decide +kernel) rfl
theorem mi_X4_silenceAround : sx_Mi yX4_silenceAround cX4_silenceAround 6 (some .int) 2 := ⟨sx_wm 776 (by decide +kernel) rfl, sx_wm 57 (by decide +kernel) rfl, by decide, by decide, by decide +kernel⟩
theorem mn_X4_silenceAround : Cond.instanceMethod yX4_silenceAround ∈ sx_ws := sx_wm 774 (by decide +kernel) rfl
theorem ms_X4_silenceAround : Cond.selects yX4_silenceAround.cls yX4_silenceAround yX4_silenceAround ∈ sx_ws := sx_wm 775 (by decide +kernel) rfl
theorem fl_X3_39 : Cond.fieldLink RX3 39 RX3 "book" "LStavehouse$Book;" ∈ sx_ws := sx_wm 195 (by decide +kernel) rfl
theorem inw_X3 : ∀ w ∈ u_ws RX3 TX3 11, w ∈ sx_ws := by decide +kernel
theorem fln_X3_46 : Cond.fieldLinkNest RX3 46 RX0 "itemCount" "I" RX6 ∈ sx_nw := sx_nm 157 (by decide +kernel) rfl
theorem fln_X3_67 : Cond.fieldLinkNest RX3 67 RX0 "score" "LStavehouse$Score;" RX6 ∈ sx_nw := sx_nm 151 (by decide +kernel) rfl
theorem fln_X3_64 : Cond.fieldLinkNest RX3 64 RX0 "number" "I" RX6 ∈ sx_nw := sx_nm 155 (by decide +kernel) rfl
theorem fln_X3_71 : Cond.fieldLinkNest RX3 71 RX0 "firstBars" "[I" RX6 ∈ sx_nw := sx_nm 160 (by decide +kernel) rfl
theorem lk_X3_74 : Cond.methodLink RX3 74 yX4_silenceAround ∈ sx_ws := sx_wm 773 (by decide +kernel) rfl
theorem fl_X3_18 : Cond.fieldLink RX3 18 RX3 "turnCosts" "[I" ∈ sx_ws := sx_wm 200 (by decide +kernel) rfl
theorem lk_X3_80 : Cond.methodLink RX3 80 Lib.Math.max.name ∈ sx_ws := sx_wm 785 (by decide +kernel) rfl
theorem lk_X3_58 : Cond.methodLink RX3 58 yJ7_fill_53178 ∈ sx_ws := sx_wm 772 (by decide +kernel) rfl
theorem mi_X3_priceTurns : sx_Mi yX3_priceTurns cX3_priceTurns 3 (none) 0 := ⟨sx_wm 771 (by decide +kernel) rfl, sx_wm 60 (by decide +kernel) rfl, by decide, by decide, by decide +kernel⟩
theorem mn_X3_priceTurns : Cond.instanceMethod yX3_priceTurns ∈ sx_ws := sx_wm 770 (by decide +kernel) rfl
theorem ms_X3_priceTurns : Cond.selects yX3_priceTurns.cls yX3_priceTurns yX3_priceTurns ∈ sx_ws := sx_wm 16 (by decide +kernel) rfl
theorem fl_X3_15 : Cond.fieldLink RX3 15 RX3 "pageLines" "I" ∈ sx_ws := sx_wm 198 (by decide +kernel) rfl
theorem mi_X3_nextOnPage : sx_Mi yX3_nextOnPage cX3_nextOnPage 2 (some .int) 1 := ⟨sx_wm 793 (by decide +kernel) rfl, sx_wm 60 (by decide +kernel) rfl, by decide, by decide, by decide +kernel⟩
theorem mn_X3_nextOnPage : Cond.instanceMethod yX3_nextOnPage ∈ sx_ws := sx_wm 792 (by decide +kernel) rfl
theorem ms_X3_nextOnPage : Cond.selects yX3_nextOnPage.cls yX3_nextOnPage yX3_nextOnPage ∈ sx_ws := sx_wm 20 (by decide +kernel) rfl
theorem lk_X3_106 : Cond.methodLink RX3 106 yX0_leastOf ∈ sx_ws := sx_wm 799 (by decide +kernel) rfl
theorem fl_X3_9 : Cond.fieldLink RX3 9 RX3 "paperWidth" "I" ∈ sx_ws := sx_wm 196 (by decide +kernel) rfl
theorem mi_X3_mayBeLine : sx_Mi yX3_mayBeLine cX3_mayBeLine 3 (some .boolean) 2 := ⟨sx_wm 798 (by decide +kernel) rfl, sx_wm 60 (by decide +kernel) rfl, by decide, by decide, by decide +kernel⟩
theorem mn_X3_mayBeLine : Cond.instanceMethod yX3_mayBeLine ∈ sx_ws := sx_wm 797 (by decide +kernel) rfl
theorem ms_X3_mayBeLine : Cond.selects yX3_mayBeLine.cls yX3_mayBeLine yX3_mayBeLine ∈ sx_ws := sx_wm 21 (by decide +kernel) rfl
theorem lk_X3_109 : Cond.methodLink RX3 109 yX0_widthOf ∈ sx_ws := sx_wm 807 (by decide +kernel) rfl
theorem mi_X3_badness : sx_Mi yX3_badness cX3_badness 4 (some .int) 2 := ⟨sx_wm 806 (by decide +kernel) rfl, sx_wm 60 (by decide +kernel) rfl, by decide, by decide, by decide +kernel⟩
theorem mn_X3_badness : Cond.instanceMethod yX3_badness ∈ sx_ws := sx_wm 805 (by decide +kernel) rfl
theorem ms_X3_badness : Cond.selects yX3_badness.cls yX3_badness yX3_badness ∈ sx_ws := sx_wm 22 (by decide +kernel) rfl
theorem mi_X3_turnAhead : sx_Mi yX3_turnAhead cX3_turnAhead 3 (some .int) 2 := ⟨sx_wm 811 (by decide +kernel) rfl, sx_wm 60 (by decide +kernel) rfl, by decide, by decide, by decide +kernel⟩
theorem mn_X3_turnAhead : Cond.instanceMethod yX3_turnAhead ∈ sx_ws := sx_wm 810 (by decide +kernel) rfl
theorem ms_X3_turnAhead : Cond.selects yX3_turnAhead.cls yX3_turnAhead yX3_turnAhead ∈ sx_ws := sx_wm 23 (by decide +kernel) rfl
theorem lk_X3_90 : Cond.methodLink RX3 90 yX3_mayBeLine ∈ sx_ws := sx_wm 795 (by decide +kernel) rfl
theorem lk_X3_94 : Cond.methodLink RX3 94 yX3_badness ∈ sx_ws := sx_wm 803 (by decide +kernel) rfl
theorem lk_X3_97 : Cond.methodLink RX3 97 yX3_turnAhead ∈ sx_ws := sx_wm 808 (by decide +kernel) rfl
theorem fl_X3_24 : Cond.fieldLink RX3 24 RX3 "costs" "[[I" ∈ sx_ws := sx_wm 201 (by decide +kernel) rfl
theorem fl_X3_27 : Cond.fieldLink RX3 27 RX3 "lineCounts" "[[I" ∈ sx_ws := sx_wm 202 (by decide +kernel) rfl
theorem fl_X3_30 : Cond.fieldLink RX3 30 RX3 "lineEnds" "[[I" ∈ sx_ws := sx_wm 203 (by decide +kernel) rfl
theorem lk_X3_85 : Cond.methodLink RX3 85 yX3_nextOnPage ∈ sx_ws := sx_wm 790 (by decide +kernel) rfl
theorem kc_X3_89 : Cond.constant RX3 89 1000000000 ∈ sx_ws := sx_wm 794 (by decide +kernel) rfl
theorem mi_X3_chooseLine : sx_Mi yX3_chooseLine cX3_chooseLine 7 (none) 2 := ⟨sx_wm 789 (by decide +kernel) rfl, sx_wm 60 (by decide +kernel) rfl, by decide, by decide, by decide +kernel⟩
theorem mn_X3_chooseLine : Cond.instanceMethod yX3_chooseLine ∈ sx_ws := sx_wm 788 (by decide +kernel) rfl
theorem ms_X3_chooseLine : Cond.selects yX3_chooseLine.cls yX3_chooseLine yX3_chooseLine ∈ sx_ws := sx_wm 19 (by decide +kernel) rfl
theorem fl_X3_100 : Cond.fieldLink RX3 100 RX3 "lineCount" "I" ∈ sx_ws := sx_wm 204 (by decide +kernel) rfl
theorem fl_X3_33 : Cond.fieldLink RX3 33 RX3 "lineStarts" "[I" ∈ sx_ws := sx_wm 208 (by decide +kernel) rfl
theorem fl_X3_103 : Cond.fieldLink RX3 103 RX3 "turnSum" "I" ∈ sx_ws := sx_wm 206 (by decide +kernel) rfl
theorem fl_X3_36 : Cond.fieldLink RX3 36 RX3 "itemLines" "[I" ∈ sx_ws := sx_wm 209 (by decide +kernel) rfl
theorem mi_X3_setLines : sx_Mi yX3_setLines cX3_setLines 6 (none) 0 := ⟨sx_wm 815 (by decide +kernel) rfl, sx_wm 60 (by decide +kernel) rfl, by decide, by decide, by decide +kernel⟩
theorem mn_X3_setLines : Cond.instanceMethod yX3_setLines ∈ sx_ws := sx_wm 814 (by decide +kernel) rfl
theorem ms_X3_setLines : Cond.selects yX3_setLines.cls yX3_setLines yX3_setLines ∈ sx_ws := sx_wm 24 (by decide +kernel) rfl
theorem lk_X3_55 : Cond.methodLink RX3 55 yX3_setLines ∈ sx_ws := sx_wm 812 (by decide +kernel) rfl
theorem lk_X3_51 : Cond.methodLink RX3 51 yX3_chooseLine ∈ sx_ws := sx_wm 786 (by decide +kernel) rfl
theorem lk_X3_43 : Cond.methodLink RX3 43 yX3_priceTurns ∈ sx_ws := sx_wm 768 (by decide +kernel) rfl
theorem mi_X3_breakLines : sx_Mi yX3_breakLines cX3_breakLines 3 (none) 0 := ⟨sx_wm 767 (by decide +kernel) rfl, sx_wm 60 (by decide +kernel) rfl, by decide, by decide, by decide +kernel⟩
theorem mn_X3_breakLines : Cond.instanceMethod yX3_breakLines ∈ sx_ws := sx_wm 765 (by decide +kernel) rfl
theorem ms_X3_breakLines : Cond.selects yX3_breakLines.cls yX3_breakLines yX3_breakLines ∈ sx_ws := sx_wm 766 (by decide +kernel) rfl
theorem mi_X3_leastCost : sx_Mi yX3_leastCost cX3_leastCost 1 (some .int) 0 := ⟨sx_wm 833 (by decide +kernel) rfl, sx_wm 60 (by decide +kernel) rfl, by decide, by decide, by decide +kernel⟩
theorem mn_X3_leastCost : Cond.instanceMethod yX3_leastCost ∈ sx_ws := sx_wm 831 (by decide +kernel) rfl
theorem ms_X3_leastCost : Cond.selects yX3_leastCost.cls yX3_leastCost yX3_leastCost ∈ sx_ws := sx_wm 832 (by decide +kernel) rfl
theorem mi_X3_leastOfAllWays : sx_Mi yX3_leastOfAllWays cX3_leastOfAllWays 8 (some .int) 3 := ⟨sx_wm 848 (by decide +kernel) rfl, sx_wm 60 (by decide +kernel) rfl, by decide, by decide, by decide +kernel⟩
theorem mn_X3_leastOfAllWays : Cond.instanceMethod yX3_leastOfAllWays ∈ sx_ws := sx_wm 847 (by decide +kernel) rfl
theorem ms_X3_leastOfAllWays : Cond.selects yX3_leastOfAllWays.cls yX3_leastOfAllWays yX3_leastOfAllWays ∈ sx_ws := sx_wm 25 (by decide +kernel) rfl
theorem lk_X3_112 : Cond.methodLink RX3 112 yX3_leastOfAllWays ∈ sx_ws := sx_wm 845 (by decide +kernel) rfl
theorem lk_X3_116 : Cond.methodLink RX3 116 Lib.Math.min.name ∈ sx_ws := sx_wm 849 (by decide +kernel) rfl
theorem mth_min : Cond.static Lib.Math.min.name ∈ sx_ws ∧ Cond.initialized "java/lang/Math" ∈ sx_ws ∧ Cond.code Lib.Math.min.name Lib.Math.min.code 2 (some .int) ∈ sx_ws := ⟨sx_wm 850 (by decide +kernel) rfl, sx_wm 71 (by decide +kernel) rfl, sx_wm 851 (by decide +kernel) rfl⟩
theorem mi_X3_leastByTrying : sx_Mi yX3_leastByTrying cX3_leastByTrying 1 (some .int) 0 := ⟨sx_wm 844 (by decide +kernel) rfl, sx_wm 60 (by decide +kernel) rfl, by decide, by decide, by decide +kernel⟩
theorem mn_X3_leastByTrying : Cond.instanceMethod yX3_leastByTrying ∈ sx_ws := sx_wm 842 (by decide +kernel) rfl
theorem ms_X3_leastByTrying : Cond.selects yX3_leastByTrying.cls yX3_leastByTrying yX3_leastByTrying ∈ sx_ws := sx_wm 843 (by decide +kernel) rfl
theorem mi_X3_shrunkAhead : sx_Mi yX3_shrunkAhead cX3_shrunkAhead 6 (some .int) 4 := ⟨sx_wm 882 (by decide +kernel) rfl, sx_wm 60 (by decide +kernel) rfl, by decide, by decide, by decide +kernel⟩
theorem mn_X3_shrunkAhead : Cond.instanceMethod yX3_shrunkAhead ∈ sx_ws := sx_wm 881 (by decide +kernel) rfl
theorem ms_X3_shrunkAhead : Cond.selects yX3_shrunkAhead.cls yX3_shrunkAhead yX3_shrunkAhead ∈ sx_ws := sx_wm 26 (by decide +kernel) rfl
theorem fln_X3_119 : Cond.fieldLinkNest RX3 119 RX0 "springSums" "[I" RX6 ∈ sx_nw := sx_nm 165 (by decide +kernel) rfl
theorem mi_X3_stretchedAhead : sx_Mi yX3_stretchedAhead cX3_stretchedAhead 6 (some .int) 4 := ⟨sx_wm 886 (by decide +kernel) rfl, sx_wm 60 (by decide +kernel) rfl, by decide, by decide, by decide +kernel⟩
theorem mn_X3_stretchedAhead : Cond.instanceMethod yX3_stretchedAhead ∈ sx_ws := sx_wm 885 (by decide +kernel) rfl
theorem ms_X3_stretchedAhead : Cond.selects yX3_stretchedAhead.cls yX3_stretchedAhead yX3_stretchedAhead ∈ sx_ws := sx_wm 27 (by decide +kernel) rfl
theorem fln_X3_122 : Cond.fieldLinkNest RX3 122 RX0 "springs" "LStavehouse$Springs;" RX6 ∈ sx_nw := sx_nm 153 (by decide +kernel) rfl
theorem fln_X3_126 : Cond.fieldLinkNest RX3 126 RX5 "widthSums" "[I" RX6 ∈ sx_nw := sx_nm 135 (by decide +kernel) rfl
theorem fln_X3_131 : Cond.fieldLinkNest RX3 131 RX0 "leastSums" "[I" RX6 ∈ sx_nw := sx_nm 167 (by decide +kernel) rfl
theorem fln_X3_134 : Cond.fieldLinkNest RX3 134 RX5 "leastSums" "[I" RX6 ∈ sx_nw := sx_nm 137 (by decide +kernel) rfl
theorem lk_X3_139 : Cond.methodLink RX3 139 yX3_stretchedAhead ∈ sx_ws := sx_wm 883 (by decide +kernel) rfl
theorem lk_X3_135 : Cond.methodLink RX3 135 yX3_shrunkAhead ∈ sx_ws := sx_wm 879 (by decide +kernel) rfl
theorem mi_X3_springAt : sx_Mi yX3_springAt cX3_springAt 10 (some .int) 2 := ⟨sx_wm 878 (by decide +kernel) rfl, sx_wm 60 (by decide +kernel) rfl, by decide, by decide, by decide +kernel⟩
theorem mn_X3_springAt : Cond.instanceMethod yX3_springAt ∈ sx_ws := sx_wm 876 (by decide +kernel) rfl
theorem ms_X3_springAt : Cond.selects yX3_springAt.cls yX3_springAt yX3_springAt ∈ sx_ws := sx_wm 877 (by decide +kernel) rfl
theorem fl_X4_15 : Cond.fieldLink RX4 15 RX4 "barTimes" "[I" ∈ sx_ws := sx_wm 93 (by decide +kernel) rfl
theorem mi_X4_addBar : sx_Mi yX4_addBar cX4_addBar 2 (some .int) 1 := ⟨sx_wm 410 (by decide +kernel) rfl, sx_wm 57 (by decide +kernel) rfl, by decide, by decide, by decide +kernel⟩
theorem mn_X4_addBar : Cond.instanceMethod yX4_addBar ∈ sx_ws := sx_wm 408 (by decide +kernel) rfl
theorem ms_X4_addBar : Cond.selects yX4_addBar.cls yX4_addBar yX4_addBar ∈ sx_ws := sx_wm 409 (by decide +kernel) rfl
theorem fl_X4_18 : Cond.fieldLink RX4 18 RX4 "barVersions" "[I" ∈ sx_ws := sx_wm 95 (by decide +kernel) rfl
theorem mi_X4_addNote : sx_Mi yX4_addNote cX4_addNote 5 (some .int) 3 := ⟨sx_wm 458 (by decide +kernel) rfl, sx_wm 57 (by decide +kernel) rfl, by decide, by decide, by decide +kernel⟩
theorem mn_X4_addNote : Cond.instanceMethod yX4_addNote ∈ sx_ws := sx_wm 456 (by decide +kernel) rfl
theorem ms_X4_addNote : Cond.selects yX4_addNote.cls yX4_addNote yX4_addNote ∈ sx_ws := sx_wm 457 (by decide +kernel) rfl
theorem mi_X4_changePitch : sx_Mi yX4_changePitch cX4_changePitch 6 (some .int) 3 := ⟨sx_wm 469 (by decide +kernel) rfl, sx_wm 57 (by decide +kernel) rfl, by decide, by decide, by decide +kernel⟩
theorem mn_X4_changePitch : Cond.instanceMethod yX4_changePitch ∈ sx_ws := sx_wm 467 (by decide +kernel) rfl
theorem ms_X4_changePitch : Cond.selects yX4_changePitch.cls yX4_changePitch yX4_changePitch ∈ sx_ws := sx_wm 468 (by decide +kernel) rfl
theorem mi_X4_takeNotes : sx_Mi yX4_takeNotes cX4_takeNotes 3 (some .int) 1 := ⟨sx_wm 480 (by decide +kernel) rfl, sx_wm 57 (by decide +kernel) rfl, by decide, by decide, by decide +kernel⟩
theorem mn_X4_takeNotes : Cond.instanceMethod yX4_takeNotes ∈ sx_ws := sx_wm 478 (by decide +kernel) rfl
theorem ms_X4_takeNotes : Cond.selects yX4_takeNotes.cls yX4_takeNotes yX4_takeNotes ∈ sx_ws := sx_wm 479 (by decide +kernel) rfl
theorem mi_X4_filled : sx_Mi yX4_filled cX4_filled 4 (some .int) 1 := ⟨sx_wm 449 (by decide +kernel) rfl, sx_wm 57 (by decide +kernel) rfl, by decide, by decide, by decide +kernel⟩
theorem mn_X4_filled : Cond.instanceMethod yX4_filled ∈ sx_ws := sx_wm 447 (by decide +kernel) rfl
theorem ms_X4_filled : Cond.selects yX4_filled.cls yX4_filled yX4_filled ∈ sx_ws := sx_wm 448 (by decide +kernel) rfl
theorem mi_X4_countTime : sx_Mi yX4_countTime cX4_countTime 4 (some .int) 1 := ⟨sx_wm 648 (by decide +kernel) rfl, sx_wm 57 (by decide +kernel) rfl, by decide, by decide, by decide +kernel⟩
theorem mn_X4_countTime : Cond.instanceMethod yX4_countTime ∈ sx_ws := sx_wm 646 (by decide +kernel) rfl
theorem ms_X4_countTime : Cond.selects yX4_countTime.cls yX4_countTime yX4_countTime ∈ sx_ws := sx_wm 647 (by decide +kernel) rfl
theorem exa_X6_IllegalArgumentException : ∀ w ∈ vx_atS RX6 253 "java/lang/IllegalArgumentException" ["java/lang/RuntimeException", "java/lang/Exception"], w ∈ sx_ws ∨ w ∈ sx_nw := by decide +kernel
theorem exg_X6_IllegalArgumentException : ∀ w ∈ Cond.classLink RX6 249 "java/lang/IllegalArgumentException" :: Cond.initialized "java/lang/IllegalArgumentException" :: vx_atS RX6 253 "java/lang/IllegalArgumentException" ["java/lang/RuntimeException", "java/lang/Exception"], vx_ot w = true := by decide +kernel
theorem exk_X6_IllegalArgumentException : Cond.classLink RX6 249 "java/lang/IllegalArgumentException" ∈ sx_ws := sx_wm 323 (by decide +kernel) rfl
theorem exi_IllegalArgumentException : Cond.initialized "java/lang/IllegalArgumentException" ∈ sx_ws := sx_wm 67 (by decide +kernel) rfl
theorem exf_IllegalArgumentException : Bundle.fit "java/lang/IllegalArgumentException" = true ∧ ∀ n ∈ (["java/lang/RuntimeException", "java/lang/Exception"] : List String), Bundle.fit n = true := by decide +kernel
theorem mi_X6_needValue : sx_Mi yX6_needValue cX6_needValue 3 (none) 3 := ⟨sx_wm 322 (by decide +kernel) rfl, sx_wm 56 (by decide +kernel) rfl, by decide, by decide, by decide +kernel⟩
theorem mt_X6_needValue : Cond.static yX6_needValue ∈ sx_ws := sx_wm 321 (by decide +kernel) rfl
theorem lk_X6_48 : Cond.methodLink RX6 48 yX6_needValue ∈ sx_ws := sx_wm 320 (by decide +kernel) rfl
theorem fl_X6_12 : Cond.fieldLink RX6 12 RX6 "score" "LStavehouse$Score;" ∈ sx_ws := sx_wm 277 (by decide +kernel) rfl
theorem inw_X6 : ∀ w ∈ u_ws RX6 TX6 7, w ∈ sx_ws := by decide +kernel
theorem fln_X6_52 : Cond.fieldLinkNest RX6 52 RX4 "barCount" "I" RX6 ∈ sx_nw := sx_nm 87 (by decide +kernel) rfl
theorem lk_X6_63 : Cond.methodLink RX6 63 yX4_addBar ∈ sx_ws := sx_wm 407 (by decide +kernel) rfl
theorem exa_X6_IllegalStateException : ∀ w ∈ vx_atS RX6 60 "java/lang/IllegalStateException" ["java/lang/RuntimeException", "java/lang/Exception"], w ∈ sx_ws ∨ w ∈ sx_nw := by decide +kernel
theorem exg_X6_IllegalStateException : ∀ w ∈ Cond.classLink RX6 56 "java/lang/IllegalStateException" :: Cond.initialized "java/lang/IllegalStateException" :: vx_atS RX6 60 "java/lang/IllegalStateException" ["java/lang/RuntimeException", "java/lang/Exception"], vx_ot w = true := by decide +kernel
theorem exk_X6_IllegalStateException : Cond.classLink RX6 56 "java/lang/IllegalStateException" ∈ sx_ws := sx_wm 391 (by decide +kernel) rfl
theorem exi_IllegalStateException : Cond.initialized "java/lang/IllegalStateException" ∈ sx_ws := sx_wm 68 (by decide +kernel) rfl
theorem exf_IllegalStateException : Bundle.fit "java/lang/IllegalStateException" = true ∧ ∀ n ∈ (["java/lang/RuntimeException", "java/lang/Exception"] : List String), Bundle.fit n = true := by decide +kernel
theorem mi_X6_bar : sx_Mi yX6_bar cX6_bar 2 (some .int) 1 := ⟨sx_wm 319 (by decide +kernel) rfl, sx_wm 56 (by decide +kernel) rfl, by decide, by decide, by decide +kernel⟩
theorem mn_X6_bar : Cond.instanceMethod yX6_bar ∈ sx_ws := sx_wm 317 (by decide +kernel) rfl
theorem ms_X6_bar : Cond.selects yX6_bar.cls yX6_bar yX6_bar ∈ sx_ws := sx_wm 318 (by decide +kernel) rfl
theorem exa_X6_IndexOutOfBoundsException : ∀ w ∈ vx_atS RX6 232 "java/lang/IndexOutOfBoundsException" ["java/lang/RuntimeException", "java/lang/Exception"], w ∈ sx_ws ∨ w ∈ sx_nw := by decide +kernel
theorem exg_X6_IndexOutOfBoundsException : ∀ w ∈ Cond.classLink RX6 228 "java/lang/IndexOutOfBoundsException" :: Cond.initialized "java/lang/IndexOutOfBoundsException" :: vx_atS RX6 232 "java/lang/IndexOutOfBoundsException" ["java/lang/RuntimeException", "java/lang/Exception"], vx_ot w = true := by decide +kernel
theorem exk_X6_IndexOutOfBoundsException : Cond.classLink RX6 228 "java/lang/IndexOutOfBoundsException" ∈ sx_ws := sx_wm 426 (by decide +kernel) rfl
theorem exi_IndexOutOfBoundsException : Cond.initialized "java/lang/IndexOutOfBoundsException" ∈ sx_ws := sx_wm 69 (by decide +kernel) rfl
theorem exf_IndexOutOfBoundsException : Bundle.fit "java/lang/IndexOutOfBoundsException" = true ∧ ∀ n ∈ (["java/lang/RuntimeException", "java/lang/Exception"] : List String), Bundle.fit n = true := by decide +kernel
theorem mi_X6_needIndex : sx_Mi yX6_needIndex cX6_needIndex 2 (none) 2 := ⟨sx_wm 425 (by decide +kernel) rfl, sx_wm 56 (by decide +kernel) rfl, by decide, by decide, by decide +kernel⟩
theorem mt_X6_needIndex : Cond.static yX6_needIndex ∈ sx_ws := sx_wm 424 (by decide +kernel) rfl
theorem lk_X6_89 : Cond.methodLink RX6 89 yX6_needIndex ∈ sx_ws := sx_wm 423 (by decide +kernel) rfl
theorem lk_X6_148 : Cond.methodLink RX6 148 yX6_slotOf ∈ sx_ws := sx_wm 442 (by decide +kernel) rfl
theorem mi_X6_needSlot : sx_Mi yX6_needSlot cX6_needSlot 3 (some .int) 2 := ⟨sx_wm 422 (by decide +kernel) rfl, sx_wm 56 (by decide +kernel) rfl, by decide, by decide, by decide +kernel⟩
theorem mn_X6_needSlot : Cond.instanceMethod yX6_needSlot ∈ sx_ws := sx_wm 421 (by decide +kernel) rfl
theorem ms_X6_needSlot : Cond.selects yX6_needSlot.cls yX6_needSlot yX6_needSlot ∈ sx_ws := sx_wm 1 (by decide +kernel) rfl
theorem lk_X6_67 : Cond.methodLink RX6 67 yX6_needSlot ∈ sx_ws := sx_wm 419 (by decide +kernel) rfl
theorem fln_X6_71 : Cond.fieldLinkNest RX6 71 RX4 "noteCounts" "[I" RX6 ∈ sx_nw := sx_nm 101 (by decide +kernel) rfl
theorem lk_X6_77 : Cond.methodLink RX6 77 yX4_filled ∈ sx_ws := sx_wm 446 (by decide +kernel) rfl
theorem fln_X6_80 : Cond.fieldLinkNest RX6 80 RX4 "barLengths" "[I" RX6 ∈ sx_nw := sx_nm 92 (by decide +kernel) rfl
theorem lk_X6_85 : Cond.methodLink RX6 85 yX4_addNote ∈ sx_ws := sx_wm 455 (by decide +kernel) rfl
theorem mi_X6_note : sx_Mi yX6_note cX6_note 6 (some .int) 4 := ⟨sx_wm 418 (by decide +kernel) rfl, sx_wm 56 (by decide +kernel) rfl, by decide, by decide, by decide +kernel⟩
theorem mn_X6_note : Cond.instanceMethod yX6_note ∈ sx_ws := sx_wm 416 (by decide +kernel) rfl
theorem ms_X6_note : Cond.selects yX6_note.cls yX6_note yX6_note ∈ sx_ws := sx_wm 417 (by decide +kernel) rfl
theorem lk_X6_93 : Cond.methodLink RX6 93 yX4_changePitch ∈ sx_ws := sx_wm 466 (by decide +kernel) rfl
theorem mi_X6_mend : sx_Mi yX6_mend cX6_mend 6 (some .int) 4 := ⟨sx_wm 465 (by decide +kernel) rfl, sx_wm 56 (by decide +kernel) rfl, by decide, by decide, by decide +kernel⟩
theorem mn_X6_mend : Cond.instanceMethod yX6_mend ∈ sx_ws := sx_wm 463 (by decide +kernel) rfl
theorem ms_X6_mend : Cond.selects yX6_mend.cls yX6_mend yX6_mend ∈ sx_ws := sx_wm 464 (by decide +kernel) rfl
theorem lk_X6_96 : Cond.methodLink RX6 96 yX4_takeNotes ∈ sx_ws := sx_wm 477 (by decide +kernel) rfl
theorem mi_X6_empty : sx_Mi yX6_empty cX6_empty 3 (some .int) 2 := ⟨sx_wm 476 (by decide +kernel) rfl, sx_wm 56 (by decide +kernel) rfl, by decide, by decide, by decide +kernel⟩
theorem mn_X6_empty : Cond.instanceMethod yX6_empty ∈ sx_ws := sx_wm 474 (by decide +kernel) rfl
theorem ms_X6_empty : Cond.selects yX6_empty.cls yX6_empty yX6_empty ∈ sx_ws := sx_wm 475 (by decide +kernel) rfl
theorem fl_X6_30 : Cond.fieldLink RX6 30 RX6 "paper" "LStavehouse$Paper;" ∈ sx_ws := sx_wm 279 (by decide +kernel) rfl
theorem fln_X6_99 : Cond.fieldLinkNest RX6 99 RX3 "paperWidth" "I" RX6 ∈ sx_nw := sx_nm 197 (by decide +kernel) rfl
theorem fln_X6_102 : Cond.fieldLinkNest RX6 102 RX3 "pageLines" "I" RX6 ∈ sx_nw := sx_nm 199 (by decide +kernel) rfl
theorem mi_X6_setPaper : sx_Mi yX6_setPaper cX6_setPaper 4 (some .int) 2 := ⟨sx_wm 487 (by decide +kernel) rfl, sx_wm 56 (by decide +kernel) rfl, by decide, by decide, by decide +kernel⟩
theorem mn_X6_setPaper : Cond.instanceMethod yX6_setPaper ∈ sx_ws := sx_wm 485 (by decide +kernel) rfl
theorem ms_X6_setPaper : Cond.selects yX6_setPaper.cls yX6_setPaper yX6_setPaper ∈ sx_ws := sx_wm 486 (by decide +kernel) rfl
theorem fl_X6_105 : Cond.fieldLink RX6 105 RX6 "copyCount" "I" ∈ sx_ws := sx_wm 282 (by decide +kernel) rfl
theorem fl_X6_36 : Cond.fieldLink RX6 36 RX6 "shelf" "[LStavehouse$Copy;" ∈ sx_ws := sx_wm 280 (by decide +kernel) rfl
theorem fln_X6_110 : Cond.fieldLinkNest RX6 110 RX1 "instrument" "I" RX6 ∈ sx_nw := sx_nm 243 (by decide +kernel) rfl
theorem mi_X6_copy : sx_Mi yX6_copy cX6_copy 2 (some .int) 1 := ⟨sx_wm 494 (by decide +kernel) rfl, sx_wm 56 (by decide +kernel) rfl, by decide, by decide, by decide +kernel⟩
theorem mn_X6_copy : Cond.instanceMethod yX6_copy ∈ sx_ws := sx_wm 492 (by decide +kernel) rfl
theorem ms_X6_copy : Cond.selects yX6_copy.cls yX6_copy yX6_copy ∈ sx_ws := sx_wm 493 (by decide +kernel) rfl
theorem fln_X6_125 : Cond.fieldLinkNest RX6 125 RX1 "desk" "I" RX6 ∈ sx_nw := sx_nm 245 (by decide +kernel) rfl
theorem mi_X6_deskHasPart : sx_Mi yX6_deskHasPart cX6_deskHasPart 4 (some .boolean) 2 := ⟨sx_wm 511 (by decide +kernel) rfl, sx_wm 56 (by decide +kernel) rfl, by decide, by decide, by decide +kernel⟩
theorem mn_X6_deskHasPart : Cond.instanceMethod yX6_deskHasPart ∈ sx_ws := sx_wm 510 (by decide +kernel) rfl
theorem ms_X6_deskHasPart : Cond.selects yX6_deskHasPart.cls yX6_deskHasPart yX6_deskHasPart ∈ sx_ws := sx_wm 2 (by decide +kernel) rfl
theorem lk_X6_113 : Cond.methodLink RX6 113 yX1_isOut ∈ sx_ws := sx_wm 503 (by decide +kernel) rfl
theorem mi_X6_copiesOut : sx_Mi yX6_copiesOut cX6_copiesOut 3 (some .int) 0 := ⟨sx_wm 525 (by decide +kernel) rfl, sx_wm 56 (by decide +kernel) rfl, by decide, by decide, by decide +kernel⟩
theorem mn_X6_copiesOut : Cond.instanceMethod yX6_copiesOut ∈ sx_ws := sx_wm 524 (by decide +kernel) rfl
theorem ms_X6_copiesOut : Cond.selects yX6_copiesOut.cls yX6_copiesOut yX6_copiesOut ∈ sx_ws := sx_wm 4 (by decide +kernel) rfl
theorem lk_X6_119 : Cond.methodLink RX6 119 yX6_deskHasPart ∈ sx_ws := sx_wm 508 (by decide +kernel) rfl
theorem lk_X6_128 : Cond.methodLink RX6 128 yX1_takeVersions ∈ sx_ws := sx_wm 513 (by decide +kernel) rfl
theorem lk_X6_131 : Cond.methodLink RX6 131 yX6_copiesOut ∈ sx_ws := sx_wm 522 (by decide +kernel) rfl
theorem mi_X6_lend : sx_Mi yX6_lend cX6_lend 4 (some .int) 2 := ⟨sx_wm 502 (by decide +kernel) rfl, sx_wm 56 (by decide +kernel) rfl, by decide, by decide, by decide +kernel⟩
theorem mn_X6_lend : Cond.instanceMethod yX6_lend ∈ sx_ws := sx_wm 500 (by decide +kernel) rfl
theorem ms_X6_lend : Cond.selects yX6_lend.cls yX6_lend yX6_lend ∈ sx_ws := sx_wm 501 (by decide +kernel) rfl
theorem mi_X6_needCopyOut : sx_Mi yX6_needCopyOut cX6_needCopyOut 3 (some (.object "Stavehouse$Copy")) 1 := ⟨sx_wm 536 (by decide +kernel) rfl, sx_wm 56 (by decide +kernel) rfl, by decide, by decide, by decide +kernel⟩
theorem mn_X6_needCopyOut : Cond.instanceMethod yX6_needCopyOut ∈ sx_ws := sx_wm 535 (by decide +kernel) rfl
theorem ms_X6_needCopyOut : Cond.selects yX6_needCopyOut.cls yX6_needCopyOut yX6_needCopyOut ∈ sx_ws := sx_wm 5 (by decide +kernel) rfl
theorem lk_X6_135 : Cond.methodLink RX6 135 yX6_needCopyOut ∈ sx_ws := sx_wm 533 (by decide +kernel) rfl
theorem lk_X6_139 : Cond.methodLink RX6 139 yX1_countDebts ∈ sx_ws := sx_wm 538 (by decide +kernel) rfl
theorem mi_X6_giveBack : sx_Mi yX6_giveBack cX6_giveBack 4 (some .int) 1 := ⟨sx_wm 532 (by decide +kernel) rfl, sx_wm 56 (by decide +kernel) rfl, by decide, by decide, by decide +kernel⟩
theorem mn_X6_giveBack : Cond.instanceMethod yX6_giveBack ∈ sx_ws := sx_wm 530 (by decide +kernel) rfl
theorem ms_X6_giveBack : Cond.selects yX6_giveBack.cls yX6_giveBack yX6_giveBack ∈ sx_ws := sx_wm 531 (by decide +kernel) rfl
theorem mi_X6_paste : sx_Mi yX6_paste cX6_paste 4 (some .int) 1 := ⟨sx_wm 557 (by decide +kernel) rfl, sx_wm 56 (by decide +kernel) rfl, by decide, by decide, by decide +kernel⟩
theorem mn_X6_paste : Cond.instanceMethod yX6_paste ∈ sx_ws := sx_wm 555 (by decide +kernel) rfl
theorem ms_X6_paste : Cond.selects yX6_paste.cls yX6_paste yX6_paste ∈ sx_ws := sx_wm 556 (by decide +kernel) rfl
theorem lk_X6_142 : Cond.methodLink RX6 142 yX1_lacks ∈ sx_ws := sx_wm 565 (by decide +kernel) rfl
theorem fl_X6_43 : Cond.fieldLink RX6 43 RX6 "desks" "[LStavehouse$Desk;" ∈ sx_ws := sx_wm 281 (by decide +kernel) rfl
theorem lk_X6_151 : Cond.methodLink RX6 151 yX1_versionOf ∈ sx_ws := sx_wm 570 (by decide +kernel) rfl
theorem lk_X6_154 : Cond.methodLink RX6 154 yX2_changeMark ∈ sx_ws := sx_wm 571 (by decide +kernel) rfl
theorem mi_X6_mark : sx_Mi yX6_mark cX6_mark 6 (some .int) 3 := ⟨sx_wm 564 (by decide +kernel) rfl, sx_wm 56 (by decide +kernel) rfl, by decide, by decide, by decide +kernel⟩
theorem mn_X6_mark : Cond.instanceMethod yX6_mark ∈ sx_ws := sx_wm 562 (by decide +kernel) rfl
theorem ms_X6_mark : Cond.selects yX6_mark.cls yX6_mark yX6_mark ∈ sx_ws := sx_wm 563 (by decide +kernel) rfl
theorem lk_X6_157 : Cond.methodLink RX6 157 yX1_owes ∈ sx_ws := sx_wm 582 (by decide +kernel) rfl
theorem fln_X6_162 : Cond.fieldLinkNest RX6 162 RX4 "barVersions" "[I" RX6 ∈ sx_nw := sx_nm 98 (by decide +kernel) rfl
theorem lk_X6_165 : Cond.methodLink RX6 165 yX2_changeBowing ∈ sx_ws := sx_wm 584 (by decide +kernel) rfl
theorem mi_X6_bow : sx_Mi yX6_bow cX6_bow 7 (some .int) 4 := ⟨sx_wm 581 (by decide +kernel) rfl, sx_wm 56 (by decide +kernel) rfl, by decide, by decide, by decide +kernel⟩
theorem mn_X6_bow : Cond.instanceMethod yX6_bow ∈ sx_ws := sx_wm 579 (by decide +kernel) rfl
theorem ms_X6_bow : Cond.selects yX6_bow.cls yX6_bow yX6_bow ∈ sx_ws := sx_wm 580 (by decide +kernel) rfl
theorem mi_X6_anyCopyOwes : sx_Mi yX6_anyCopyOwes cX6_anyCopyOwes 2 (some .boolean) 0 := ⟨sx_wm 603 (by decide +kernel) rfl, sx_wm 56 (by decide +kernel) rfl, by decide, by decide, by decide +kernel⟩
theorem mn_X6_anyCopyOwes : Cond.instanceMethod yX6_anyCopyOwes ∈ sx_ws := sx_wm 602 (by decide +kernel) rfl
theorem ms_X6_anyCopyOwes : Cond.selects yX6_anyCopyOwes.cls yX6_anyCopyOwes yX6_anyCopyOwes ∈ sx_ws := sx_wm 6 (by decide +kernel) rfl
theorem lk_X6_171 : Cond.methodLink RX6 171 yX6_anyCopyOwes ∈ sx_ws := sx_wm 600 (by decide +kernel) rfl
theorem fl_X6_176 : Cond.fieldLink RX6 176 RX6 "concertCount" "I" ∈ sx_ws := sx_wm 283 (by decide +kernel) rfl
theorem mi_X6_play : sx_Mi yX6_play cX6_play 2 (some .int) 0 := ⟨sx_wm 598 (by decide +kernel) rfl, sx_wm 56 (by decide +kernel) rfl, by decide, by decide, by decide +kernel⟩
theorem mn_X6_play : Cond.instanceMethod yX6_play ∈ sx_ws := sx_wm 596 (by decide +kernel) rfl
theorem ms_X6_play : Cond.selects yX6_play.cls yX6_play yX6_play ∈ sx_ws := sx_wm 597 (by decide +kernel) rfl
theorem mi_X6_bars : sx_Mi yX6_bars cX6_bars 1 (some .int) 0 := ⟨sx_wm 302 (by decide +kernel) rfl, sx_wm 56 (by decide +kernel) rfl, by decide, by decide, by decide +kernel⟩
theorem mn_X6_bars : Cond.instanceMethod yX6_bars ∈ sx_ws := sx_wm 300 (by decide +kernel) rfl
theorem ms_X6_bars : Cond.selects yX6_bars.cls yX6_bars yX6_bars ∈ sx_ws := sx_wm 301 (by decide +kernel) rfl
theorem mi_X6_notes : sx_Mi yX6_notes cX6_notes 3 (some .int) 2 := ⟨sx_wm 611 (by decide +kernel) rfl, sx_wm 56 (by decide +kernel) rfl, by decide, by decide, by decide +kernel⟩
theorem mn_X6_notes : Cond.instanceMethod yX6_notes ∈ sx_ws := sx_wm 609 (by decide +kernel) rfl
theorem ms_X6_notes : Cond.selects yX6_notes.cls yX6_notes yX6_notes ∈ sx_ws := sx_wm 610 (by decide +kernel) rfl
theorem lk_X6_179 : Cond.methodLink RX6 179 yX4_lengthAt ∈ sx_ws := sx_wm 619 (by decide +kernel) rfl
theorem lk_X6_182 : Cond.methodLink RX6 182 yX4_pitchAt ∈ sx_ws := sx_wm 620 (by decide +kernel) rfl
theorem mi_X6_noteAt : sx_Mi yX6_noteAt cX6_noteAt 5 (some .int) 3 := ⟨sx_wm 618 (by decide +kernel) rfl, sx_wm 56 (by decide +kernel) rfl, by decide, by decide, by decide +kernel⟩
theorem mn_X6_noteAt : Cond.instanceMethod yX6_noteAt ∈ sx_ws := sx_wm 616 (by decide +kernel) rfl
theorem ms_X6_noteAt : Cond.selects yX6_noteAt.cls yX6_noteAt yX6_noteAt ∈ sx_ws := sx_wm 617 (by decide +kernel) rfl
theorem mi_X6_version : sx_Mi yX6_version cX6_version 3 (some .int) 2 := ⟨sx_wm 630 (by decide +kernel) rfl, sx_wm 56 (by decide +kernel) rfl, by decide, by decide, by decide +kernel⟩
theorem mn_X6_version : Cond.instanceMethod yX6_version ∈ sx_ws := sx_wm 628 (by decide +kernel) rfl
theorem ms_X6_version : Cond.selects yX6_version.cls yX6_version yX6_version ∈ sx_ws := sx_wm 629 (by decide +kernel) rfl
theorem fln_X6_185 : Cond.fieldLinkNest RX6 185 RX4 "barTimes" "[I" RX6 ∈ sx_nw := sx_nm 94 (by decide +kernel) rfl
theorem mi_X6_time : sx_Mi yX6_time cX6_time 2 (some .int) 1 := ⟨sx_wm 637 (by decide +kernel) rfl, sx_wm 56 (by decide +kernel) rfl, by decide, by decide, by decide +kernel⟩
theorem mn_X6_time : Cond.instanceMethod yX6_time ∈ sx_ws := sx_wm 635 (by decide +kernel) rfl
theorem ms_X6_time : Cond.selects yX6_time.cls yX6_time yX6_time ∈ sx_ws := sx_wm 636 (by decide +kernel) rfl
theorem lk_X6_188 : Cond.methodLink RX6 188 yX4_countTime ∈ sx_ws := sx_wm 645 (by decide +kernel) rfl
theorem mi_X6_timeByBars : sx_Mi yX6_timeByBars cX6_timeByBars 2 (some .int) 1 := ⟨sx_wm 644 (by decide +kernel) rfl, sx_wm 56 (by decide +kernel) rfl, by decide, by decide, by decide +kernel⟩
theorem mn_X6_timeByBars : Cond.instanceMethod yX6_timeByBars ∈ sx_ws := sx_wm 642 (by decide +kernel) rfl
theorem ms_X6_timeByBars : Cond.selects yX6_timeByBars.cls yX6_timeByBars yX6_timeByBars ∈ sx_ws := sx_wm 643 (by decide +kernel) rfl
theorem fl_X6_21 : Cond.fieldLink RX6 21 RX6 "opened" "LStavehouse$Book;" ∈ sx_ws := sx_wm 278 (by decide +kernel) rfl
theorem lk_X6_259 : Cond.methodLink RX6 259 yX0_gather ∈ sx_ws := sx_wm 660 (by decide +kernel) rfl
theorem mi_X6_openBook : sx_Mi yX6_openBook cX6_openBook 2 (none) 1 := ⟨sx_wm 659 (by decide +kernel) rfl, sx_wm 56 (by decide +kernel) rfl, by decide, by decide, by decide +kernel⟩
theorem mn_X6_openBook : Cond.instanceMethod yX6_openBook ∈ sx_ws := sx_wm 658 (by decide +kernel) rfl
theorem ms_X6_openBook : Cond.selects yX6_openBook.cls yX6_openBook yX6_openBook ∈ sx_ws := sx_wm 7 (by decide +kernel) rfl
theorem lk_X6_191 : Cond.methodLink RX6 191 yX6_openBook ∈ sx_ws := sx_wm 656 (by decide +kernel) rfl
theorem fln_X6_195 : Cond.fieldLinkNest RX6 195 RX0 "itemCount" "I" RX6 ∈ sx_nw := sx_nm 158 (by decide +kernel) rfl
theorem mi_X6_items : sx_Mi yX6_items cX6_items 2 (some .int) 1 := ⟨sx_wm 655 (by decide +kernel) rfl, sx_wm 56 (by decide +kernel) rfl, by decide, by decide, by decide +kernel⟩
theorem mn_X6_items : Cond.instanceMethod yX6_items ∈ sx_ws := sx_wm 653 (by decide +kernel) rfl
theorem ms_X6_items : Cond.selects yX6_items.cls yX6_items yX6_items ∈ sx_ws := sx_wm 654 (by decide +kernel) rfl
theorem fln_X6_198 : Cond.fieldLinkNest RX6 198 RX0 "barItems" "[I" RX6 ∈ sx_nw := sx_nm 162 (by decide +kernel) rfl
theorem mi_X6_itemOf : sx_Mi yX6_itemOf cX6_itemOf 3 (some .int) 2 := ⟨sx_wm 733 (by decide +kernel) rfl, sx_wm 56 (by decide +kernel) rfl, by decide, by decide, by decide +kernel⟩
theorem mn_X6_itemOf : Cond.instanceMethod yX6_itemOf ∈ sx_ws := sx_wm 731 (by decide +kernel) rfl
theorem ms_X6_itemOf : Cond.selects yX6_itemOf.cls yX6_itemOf yX6_itemOf ∈ sx_ws := sx_wm 732 (by decide +kernel) rfl
theorem lk_X6_201 : Cond.methodLink RX6 201 yX4_cuePlayer ∈ sx_ws := sx_wm 741 (by decide +kernel) rfl
theorem mi_X6_cue : sx_Mi yX6_cue cX6_cue 3 (some .int) 2 := ⟨sx_wm 740 (by decide +kernel) rfl, sx_wm 56 (by decide +kernel) rfl, by decide, by decide, by decide +kernel⟩
theorem mn_X6_cue : Cond.instanceMethod yX6_cue ∈ sx_ws := sx_wm 738 (by decide +kernel) rfl
theorem ms_X6_cue : Cond.selects yX6_cue.cls yX6_cue yX6_cue ∈ sx_ws := sx_wm 739 (by decide +kernel) rfl
theorem lk_X6_204 : Cond.methodLink RX6 204 yX0_widthOf ∈ sx_ws := sx_wm 749 (by decide +kernel) rfl
theorem mi_X6_width : sx_Mi yX6_width cX6_width 3 (some .int) 2 := ⟨sx_wm 748 (by decide +kernel) rfl, sx_wm 56 (by decide +kernel) rfl, by decide, by decide, by decide +kernel⟩
theorem mn_X6_width : Cond.instanceMethod yX6_width ∈ sx_ws := sx_wm 746 (by decide +kernel) rfl
theorem ms_X6_width : Cond.selects yX6_width.cls yX6_width yX6_width ∈ sx_ws := sx_wm 747 (by decide +kernel) rfl
theorem lk_X6_262 : Cond.methodLink RX6 262 yX3_breakLines ∈ sx_ws := sx_wm 764 (by decide +kernel) rfl
theorem mi_X6_breakBook : sx_Mi yX6_breakBook cX6_breakBook 2 (none) 1 := ⟨sx_wm 763 (by decide +kernel) rfl, sx_wm 56 (by decide +kernel) rfl, by decide, by decide, by decide +kernel⟩
theorem mn_X6_breakBook : Cond.instanceMethod yX6_breakBook ∈ sx_ws := sx_wm 762 (by decide +kernel) rfl
theorem ms_X6_breakBook : Cond.selects yX6_breakBook.cls yX6_breakBook yX6_breakBook ∈ sx_ws := sx_wm 15 (by decide +kernel) rfl
theorem lk_X6_207 : Cond.methodLink RX6 207 yX6_breakBook ∈ sx_ws := sx_wm 760 (by decide +kernel) rfl
theorem fln_X6_210 : Cond.fieldLinkNest RX6 210 RX3 "lineCount" "I" RX6 ∈ sx_nw := sx_nm 205 (by decide +kernel) rfl
theorem mi_X6_lines : sx_Mi yX6_lines cX6_lines 2 (some .int) 1 := ⟨sx_wm 759 (by decide +kernel) rfl, sx_wm 56 (by decide +kernel) rfl, by decide, by decide, by decide +kernel⟩
theorem mn_X6_lines : Cond.instanceMethod yX6_lines ∈ sx_ws := sx_wm 757 (by decide +kernel) rfl
theorem ms_X6_lines : Cond.selects yX6_lines.cls yX6_lines yX6_lines ∈ sx_ws := sx_wm 758 (by decide +kernel) rfl
theorem fln_X6_213 : Cond.fieldLinkNest RX6 213 RX3 "itemLines" "[I" RX6 ∈ sx_nw := sx_nm 210 (by decide +kernel) rfl
theorem mi_X6_lineOf : sx_Mi yX6_lineOf cX6_lineOf 3 (some .int) 2 := ⟨sx_wm 822 (by decide +kernel) rfl, sx_wm 56 (by decide +kernel) rfl, by decide, by decide, by decide +kernel⟩
theorem mn_X6_lineOf : Cond.instanceMethod yX6_lineOf ∈ sx_ws := sx_wm 820 (by decide +kernel) rfl
theorem ms_X6_lineOf : Cond.selects yX6_lineOf.cls yX6_lineOf yX6_lineOf ∈ sx_ws := sx_wm 821 (by decide +kernel) rfl
theorem lk_X6_216 : Cond.methodLink RX6 216 yX3_leastCost ∈ sx_ws := sx_wm 830 (by decide +kernel) rfl
theorem mi_X6_cost : sx_Mi yX6_cost cX6_cost 2 (some .int) 1 := ⟨sx_wm 829 (by decide +kernel) rfl, sx_wm 56 (by decide +kernel) rfl, by decide, by decide, by decide +kernel⟩
theorem mn_X6_cost : Cond.instanceMethod yX6_cost ∈ sx_ws := sx_wm 827 (by decide +kernel) rfl
theorem ms_X6_cost : Cond.selects yX6_cost.cls yX6_cost yX6_cost ∈ sx_ws := sx_wm 828 (by decide +kernel) rfl
theorem lk_X6_219 : Cond.methodLink RX6 219 yX3_leastByTrying ∈ sx_ws := sx_wm 841 (by decide +kernel) rfl
theorem mi_X6_costByAll : sx_Mi yX6_costByAll cX6_costByAll 2 (some .int) 1 := ⟨sx_wm 840 (by decide +kernel) rfl, sx_wm 56 (by decide +kernel) rfl, by decide, by decide, by decide +kernel⟩
theorem mn_X6_costByAll : Cond.instanceMethod yX6_costByAll ∈ sx_ws := sx_wm 838 (by decide +kernel) rfl
theorem ms_X6_costByAll : Cond.selects yX6_costByAll.cls yX6_costByAll yX6_costByAll ∈ sx_ws := sx_wm 839 (by decide +kernel) rfl
theorem fln_X6_222 : Cond.fieldLinkNest RX6 222 RX3 "turnSum" "I" RX6 ∈ sx_nw := sx_nm 207 (by decide +kernel) rfl
theorem mi_X6_turns : sx_Mi yX6_turns cX6_turns 2 (some .int) 1 := ⟨sx_wm 858 (by decide +kernel) rfl, sx_wm 56 (by decide +kernel) rfl, by decide, by decide, by decide +kernel⟩
theorem mn_X6_turns : Cond.instanceMethod yX6_turns ∈ sx_ws := sx_wm 856 (by decide +kernel) rfl
theorem ms_X6_turns : Cond.selects yX6_turns.cls yX6_turns yX6_turns ∈ sx_ws := sx_wm 857 (by decide +kernel) rfl
theorem lk_X6_225 : Cond.methodLink RX6 225 yX0_drawSpring ∈ sx_ws := sx_wm 866 (by decide +kernel) rfl
theorem lk_X6_233 : Cond.methodLink RX6 233 yX3_springAt ∈ sx_ws := sx_wm 875 (by decide +kernel) rfl
theorem mi_X6_place : sx_Mi yX6_place cX6_place 5 (some .int) 3 := ⟨sx_wm 865 (by decide +kernel) rfl, sx_wm 56 (by decide +kernel) rfl, by decide, by decide, by decide +kernel⟩
theorem mn_X6_place : Cond.instanceMethod yX6_place ∈ sx_ws := sx_wm 863 (by decide +kernel) rfl
theorem ms_X6_place : Cond.selects yX6_place.cls yX6_place yX6_place ∈ sx_ws := sx_wm 864 (by decide +kernel) rfl
theorem mi_X6_copies : sx_Mi yX6_copies cX6_copies 1 (some .int) 0 := ⟨sx_wm 306 (by decide +kernel) rfl, sx_wm 56 (by decide +kernel) rfl, by decide, by decide, by decide +kernel⟩
theorem mn_X6_copies : Cond.instanceMethod yX6_copies ∈ sx_ws := sx_wm 304 (by decide +kernel) rfl
theorem ms_X6_copies : Cond.selects yX6_copies.cls yX6_copies yX6_copies ∈ sx_ws := sx_wm 305 (by decide +kernel) rfl
theorem mi_X6_deskOf : sx_Mi yX6_deskOf cX6_deskOf 2 (some .int) 1 := ⟨sx_wm 893 (by decide +kernel) rfl, sx_wm 56 (by decide +kernel) rfl, by decide, by decide, by decide +kernel⟩
theorem mn_X6_deskOf : Cond.instanceMethod yX6_deskOf ∈ sx_ws := sx_wm 891 (by decide +kernel) rfl
theorem ms_X6_deskOf : Cond.selects yX6_deskOf.cls yX6_deskOf yX6_deskOf ∈ sx_ws := sx_wm 892 (by decide +kernel) rfl
theorem mi_X6_has : sx_Mi yX6_has cX6_has 3 (some .int) 2 := ⟨sx_wm 900 (by decide +kernel) rfl, sx_wm 56 (by decide +kernel) rfl, by decide, by decide, by decide +kernel⟩
theorem mn_X6_has : Cond.instanceMethod yX6_has ∈ sx_ws := sx_wm 898 (by decide +kernel) rfl
theorem ms_X6_has : Cond.selects yX6_has.cls yX6_has yX6_has ∈ sx_ws := sx_wm 899 (by decide +kernel) rfl
theorem mi_X6_owed : sx_Mi yX6_owed cX6_owed 2 (some .int) 1 := ⟨sx_wm 907 (by decide +kernel) rfl, sx_wm 56 (by decide +kernel) rfl, by decide, by decide, by decide +kernel⟩
theorem mn_X6_owed : Cond.instanceMethod yX6_owed ∈ sx_ws := sx_wm 905 (by decide +kernel) rfl
theorem ms_X6_owed : Cond.selects yX6_owed.cls yX6_owed yX6_owed ∈ sx_ws := sx_wm 906 (by decide +kernel) rfl
theorem fln_X6_236 : Cond.fieldLinkNest RX6 236 RX2 "signs" "[I" RX6 ∈ sx_nw := sx_nm 264 (by decide +kernel) rfl
theorem mi_X6_markOf : sx_Mi yX6_markOf cX6_markOf 4 (some .int) 3 := ⟨sx_wm 914 (by decide +kernel) rfl, sx_wm 56 (by decide +kernel) rfl, by decide, by decide, by decide +kernel⟩
theorem mn_X6_markOf : Cond.instanceMethod yX6_markOf ∈ sx_ws := sx_wm 912 (by decide +kernel) rfl
theorem ms_X6_markOf : Cond.selects yX6_markOf.cls yX6_markOf yX6_markOf ∈ sx_ws := sx_wm 913 (by decide +kernel) rfl
theorem lk_X6_239 : Cond.methodLink RX6 239 yX2_countOldMarks ∈ sx_ws := sx_wm 922 (by decide +kernel) rfl
theorem mi_X6_oldMarks : sx_Mi yX6_oldMarks cX6_oldMarks 2 (some .int) 1 := ⟨sx_wm 921 (by decide +kernel) rfl, sx_wm 56 (by decide +kernel) rfl, by decide, by decide, by decide +kernel⟩
theorem mn_X6_oldMarks : Cond.instanceMethod yX6_oldMarks ∈ sx_ws := sx_wm 919 (by decide +kernel) rfl
theorem ms_X6_oldMarks : Cond.selects yX6_oldMarks.cls yX6_oldMarks yX6_oldMarks ∈ sx_ws := sx_wm 920 (by decide +kernel) rfl
theorem lk_X6_256 : Cond.methodLink RX6 256 yX2_bowingAt ∈ sx_ws := sx_wm 937 (by decide +kernel) rfl
theorem mi_X6_clashesAt : sx_Mi yX6_clashesAt cX6_clashesAt 11 (some .int) 3 := ⟨sx_wm 936 (by decide +kernel) rfl, sx_wm 56 (by decide +kernel) rfl, by decide, by decide, by decide +kernel⟩
theorem mn_X6_clashesAt : Cond.instanceMethod yX6_clashesAt ∈ sx_ws := sx_wm 935 (by decide +kernel) rfl
theorem ms_X6_clashesAt : Cond.selects yX6_clashesAt.cls yX6_clashesAt yX6_clashesAt ∈ sx_ws := sx_wm 28 (by decide +kernel) rfl
theorem lk_X6_243 : Cond.methodLink RX6 243 yX6_clashesAt ∈ sx_ws := sx_wm 933 (by decide +kernel) rfl
theorem mi_X6_clashes : sx_Mi yX6_clashes cX6_clashes 4 (some .int) 1 := ⟨sx_wm 932 (by decide +kernel) rfl, sx_wm 56 (by decide +kernel) rfl, by decide, by decide, by decide +kernel⟩
theorem mn_X6_clashes : Cond.instanceMethod yX6_clashes ∈ sx_ws := sx_wm 930 (by decide +kernel) rfl
theorem ms_X6_clashes : Cond.selects yX6_clashes.cls yX6_clashes yX6_clashes ∈ sx_ws := sx_wm 931 (by decide +kernel) rfl
theorem mi_X6_concerts : sx_Mi yX6_concerts cX6_concerts 1 (some .int) 0 := ⟨sx_wm 310 (by decide +kernel) rfl, sx_wm 56 (by decide +kernel) rfl, by decide, by decide, by decide +kernel⟩
theorem mn_X6_concerts : Cond.instanceMethod yX6_concerts ∈ sx_ws := sx_wm 308 (by decide +kernel) rfl
theorem ms_X6_concerts : Cond.selects yX6_concerts.cls yX6_concerts yX6_concerts ∈ sx_ws := sx_wm 309 (by decide +kernel) rfl
theorem fl_X7_92 : Cond.fieldLink RX7 92 RX7 "last" "I" ∈ sx_ws := sx_wm 977 (by decide +kernel) rfl
theorem inw_X7 : ∀ w ∈ u_ws RX7 TX7 34, w ∈ sx_ws := by decide +kernel
theorem mi_X7_thrown : sx_Mi yX7_thrown cX7_thrown 1 (some .int) 0 := ⟨sx_wm 1050 (by decide +kernel) rfl, sx_wm 63 (by decide +kernel) rfl, by decide, by decide, by decide +kernel⟩
theorem mn_X7_thrown : Cond.instanceMethod yX7_thrown ∈ sx_ws := sx_wm 1048 (by decide +kernel) rfl
theorem ms_X7_thrown : Cond.selects yX7_thrown.cls yX7_thrown yX7_thrown ∈ sx_ws := sx_wm 1049 (by decide +kernel) rfl
theorem mi_X7_in : sx_Mi yX7_in cX7_in 3 (some .boolean) 3 := ⟨sx_wm 1057 (by decide +kernel) rfl, sx_wm 63 (by decide +kernel) rfl, by decide, by decide, by decide +kernel⟩
theorem mt_X7_in : Cond.static yX7_in ∈ sx_ws := sx_wm 1056 (by decide +kernel) rfl
theorem mi_X7_goes : sx_Mi yX7_goes cX7_goes 4 (some .boolean) 3 := ⟨sx_wm 1061 (by decide +kernel) rfl, sx_wm 63 (by decide +kernel) rfl, by decide, by decide, by decide +kernel⟩
theorem mn_X7_goes : Cond.instanceMethod yX7_goes ∈ sx_ws := sx_wm 1060 (by decide +kernel) rfl
theorem ms_X7_goes : Cond.selects yX7_goes.cls yX7_goes yX7_goes ∈ sx_ws := sx_wm 29 (by decide +kernel) rfl
theorem lk_X7_95 : Cond.methodLink RX7 95 yX7_in ∈ sx_ws := sx_wm 1055 (by decide +kernel) rfl
theorem mi_X7_isInstrument : sx_Mi yX7_isInstrument cX7_isInstrument 1 (some .boolean) 1 := ⟨sx_wm 1068 (by decide +kernel) rfl, sx_wm 63 (by decide +kernel) rfl, by decide, by decide, by decide +kernel⟩
theorem mt_X7_isInstrument : Cond.static yX7_isInstrument ∈ sx_ws := sx_wm 1067 (by decide +kernel) rfl
theorem fl_X7_99 : Cond.fieldLink RX7 99 RX7 "bars" "I" ∈ sx_ws := sx_wm 949 (by decide +kernel) rfl
theorem mi_X7_isBar : sx_Mi yX7_isBar cX7_isBar 2 (some .boolean) 1 := ⟨sx_wm 1072 (by decide +kernel) rfl, sx_wm 63 (by decide +kernel) rfl, by decide, by decide, by decide +kernel⟩
theorem mn_X7_isBar : Cond.instanceMethod yX7_isBar ∈ sx_ws := sx_wm 1071 (by decide +kernel) rfl
theorem ms_X7_isBar : Cond.selects yX7_isBar.cls yX7_isBar yX7_isBar ∈ sx_ws := sx_wm 30 (by decide +kernel) rfl
theorem mi_X7_isBook : sx_Mi yX7_isBook cX7_isBook 1 (some .boolean) 1 := ⟨sx_wm 1183 (by decide +kernel) rfl, sx_wm 63 (by decide +kernel) rfl, by decide, by decide, by decide +kernel⟩
theorem mt_X7_isBook : Cond.static yX7_isBook ∈ sx_ws := sx_wm 1182 (by decide +kernel) rfl
theorem fl_X7_102 : Cond.fieldLink RX7 102 RX7 "copies" "I" ∈ sx_ws := sx_wm 955 (by decide +kernel) rfl
theorem mi_X7_isCopy : sx_Mi yX7_isCopy cX7_isCopy 2 (some .boolean) 1 := ⟨sx_wm 1107 (by decide +kernel) rfl, sx_wm 63 (by decide +kernel) rfl, by decide, by decide, by decide +kernel⟩
theorem mn_X7_isCopy : Cond.instanceMethod yX7_isCopy ∈ sx_ws := sx_wm 1106 (by decide +kernel) rfl
theorem ms_X7_isCopy : Cond.selects yX7_isCopy.cls yX7_isCopy yX7_isCopy ∈ sx_ws := sx_wm 33 (by decide +kernel) rfl
theorem mi_X7_cell : sx_Mi yX7_cell cX7_cell 2 (some .int) 2 := ⟨sx_wm 1075 (by decide +kernel) rfl, sx_wm 63 (by decide +kernel) rfl, by decide, by decide, by decide +kernel⟩
theorem mt_X7_cell : Cond.static yX7_cell ∈ sx_ws := sx_wm 1074 (by decide +kernel) rfl
theorem lk_X7_105 : Cond.methodLink RX7 105 yX7_goes ∈ sx_ws := sx_wm 1058 (by decide +kernel) rfl
theorem fl_X7_7 : Cond.fieldLink RX7 7 RX7 "lengths" "[I" ∈ sx_ws := sx_wm 944 (by decide +kernel) rfl
theorem mi_X7_bar : sx_Mi yX7_bar cX7_bar 2 (some .int) 1 := ⟨sx_wm 1054 (by decide +kernel) rfl, sx_wm 63 (by decide +kernel) rfl, by decide, by decide, by decide +kernel⟩
theorem mn_X7_bar : Cond.instanceMethod yX7_bar ∈ sx_ws := sx_wm 1052 (by decide +kernel) rfl
theorem ms_X7_bar : Cond.selects yX7_bar.cls yX7_bar yX7_bar ∈ sx_ws := sx_wm 1053 (by decide +kernel) rfl
theorem fl_X7_13 : Cond.fieldLink RX7 13 RX7 "noteLengths" "[I" ∈ sx_ws := sx_wm 945 (by decide +kernel) rfl
theorem mi_X7_filled : sx_Mi yX7_filled cX7_filled 5 (some .int) 2 := ⟨sx_wm 1079 (by decide +kernel) rfl, sx_wm 63 (by decide +kernel) rfl, by decide, by decide, by decide +kernel⟩
theorem mn_X7_filled : Cond.instanceMethod yX7_filled ∈ sx_ws := sx_wm 1078 (by decide +kernel) rfl
theorem ms_X7_filled : Cond.selects yX7_filled.cls yX7_filled yX7_filled ∈ sx_ws := sx_wm 31 (by decide +kernel) rfl
theorem lk_X7_116 : Cond.methodLink RX7 116 yX7_cell ∈ sx_ws := sx_wm 1073 (by decide +kernel) rfl
theorem fl_X7_19 : Cond.fieldLink RX7 19 RX7 "counts" "[I" ∈ sx_ws := sx_wm 947 (by decide +kernel) rfl
theorem lk_X7_120 : Cond.methodLink RX7 120 yX7_filled ∈ sx_ws := sx_wm 1076 (by decide +kernel) rfl
theorem fl_X7_16 : Cond.fieldLink RX7 16 RX7 "pitches" "[I" ∈ sx_ws := sx_wm 946 (by decide +kernel) rfl
theorem fl_X7_22 : Cond.fieldLink RX7 22 RX7 "versions" "[I" ∈ sx_ws := sx_wm 948 (by decide +kernel) rfl
theorem lk_X7_109 : Cond.methodLink RX7 109 yX7_isInstrument ∈ sx_ws := sx_wm 1066 (by decide +kernel) rfl
theorem lk_X7_113 : Cond.methodLink RX7 113 yX7_isBar ∈ sx_ws := sx_wm 1069 (by decide +kernel) rfl
theorem mi_X7_note : sx_Mi yX7_note cX7_note 9 (some .int) 4 := ⟨sx_wm 1065 (by decide +kernel) rfl, sx_wm 63 (by decide +kernel) rfl, by decide, by decide, by decide +kernel⟩
theorem mn_X7_note : Cond.instanceMethod yX7_note ∈ sx_ws := sx_wm 1063 (by decide +kernel) rfl
theorem ms_X7_note : Cond.selects yX7_note.cls yX7_note yX7_note ∈ sx_ws := sx_wm 1064 (by decide +kernel) rfl
theorem mi_X7_isNote : sx_Mi yX7_isNote cX7_isNote 4 (some .boolean) 3 := ⟨sx_wm 1087 (by decide +kernel) rfl, sx_wm 63 (by decide +kernel) rfl, by decide, by decide, by decide +kernel⟩
theorem mn_X7_isNote : Cond.instanceMethod yX7_isNote ∈ sx_ws := sx_wm 1086 (by decide +kernel) rfl
theorem ms_X7_isNote : Cond.selects yX7_isNote.cls yX7_isNote yX7_isNote ∈ sx_ws := sx_wm 32 (by decide +kernel) rfl
theorem lk_X7_123 : Cond.methodLink RX7 123 yX7_isNote ∈ sx_ws := sx_wm 1084 (by decide +kernel) rfl
theorem mi_X7_mend : sx_Mi yX7_mend cX7_mend 8 (some .int) 4 := ⟨sx_wm 1083 (by decide +kernel) rfl, sx_wm 63 (by decide +kernel) rfl, by decide, by decide, by decide +kernel⟩
theorem mn_X7_mend : Cond.instanceMethod yX7_mend ∈ sx_ws := sx_wm 1081 (by decide +kernel) rfl
theorem ms_X7_mend : Cond.selects yX7_mend.cls yX7_mend yX7_mend ∈ sx_ws := sx_wm 1082 (by decide +kernel) rfl
theorem mi_X7_empty : sx_Mi yX7_empty cX7_empty 5 (some .int) 2 := ⟨sx_wm 1091 (by decide +kernel) rfl, sx_wm 63 (by decide +kernel) rfl, by decide, by decide, by decide +kernel⟩
theorem mn_X7_empty : Cond.instanceMethod yX7_empty ∈ sx_ws := sx_wm 1089 (by decide +kernel) rfl
theorem ms_X7_empty : Cond.selects yX7_empty.cls yX7_empty yX7_empty ∈ sx_ws := sx_wm 1090 (by decide +kernel) rfl
theorem fl_X7_25 : Cond.fieldLink RX7 25 RX7 "paper" "I" ∈ sx_ws := sx_wm 950 (by decide +kernel) rfl
theorem fl_X7_29 : Cond.fieldLink RX7 29 RX7 "page" "I" ∈ sx_ws := sx_wm 951 (by decide +kernel) rfl
theorem mi_X7_setPaper : sx_Mi yX7_setPaper cX7_setPaper 4 (some .int) 2 := ⟨sx_wm 1095 (by decide +kernel) rfl, sx_wm 63 (by decide +kernel) rfl, by decide, by decide, by decide +kernel⟩
theorem mn_X7_setPaper : Cond.instanceMethod yX7_setPaper ∈ sx_ws := sx_wm 1093 (by decide +kernel) rfl
theorem ms_X7_setPaper : Cond.selects yX7_setPaper.cls yX7_setPaper yX7_setPaper ∈ sx_ws := sx_wm 1094 (by decide +kernel) rfl
theorem fl_X7_32 : Cond.fieldLink RX7 32 RX7 "instruments" "[I" ∈ sx_ws := sx_wm 952 (by decide +kernel) rfl
theorem fl_X7_35 : Cond.fieldLink RX7 35 RX7 "desks" "[I" ∈ sx_ws := sx_wm 953 (by decide +kernel) rfl
theorem mi_X7_copy : sx_Mi yX7_copy cX7_copy 2 (some .int) 1 := ⟨sx_wm 1099 (by decide +kernel) rfl, sx_wm 63 (by decide +kernel) rfl, by decide, by decide, by decide +kernel⟩
theorem mn_X7_copy : Cond.instanceMethod yX7_copy ∈ sx_ws := sx_wm 1097 (by decide +kernel) rfl
theorem ms_X7_copy : Cond.selects yX7_copy.cls yX7_copy yX7_copy ∈ sx_ws := sx_wm 1098 (by decide +kernel) rfl
theorem mi_X7_away : sx_Mi yX7_away cX7_away 3 (some .int) 0 := ⟨sx_wm 1115 (by decide +kernel) rfl, sx_wm 63 (by decide +kernel) rfl, by decide, by decide, by decide +kernel⟩
theorem mn_X7_away : Cond.instanceMethod yX7_away ∈ sx_ws := sx_wm 1114 (by decide +kernel) rfl
theorem ms_X7_away : Cond.selects yX7_away.cls yX7_away yX7_away ∈ sx_ws := sx_wm 35 (by decide +kernel) rfl
theorem fl_X7_38 : Cond.fieldLink RX7 38 RX7 "has" "[I" ∈ sx_ws := sx_wm 954 (by decide +kernel) rfl
theorem mi_X7_renews : sx_Mi yX7_renews cX7_renews 3 (none) 1 := ⟨sx_wm 1111 (by decide +kernel) rfl, sx_wm 63 (by decide +kernel) rfl, by decide, by decide, by decide +kernel⟩
theorem mn_X7_renews : Cond.instanceMethod yX7_renews ∈ sx_ws := sx_wm 1110 (by decide +kernel) rfl
theorem ms_X7_renews : Cond.selects yX7_renews.cls yX7_renews yX7_renews ∈ sx_ws := sx_wm 34 (by decide +kernel) rfl
theorem lk_X7_129 : Cond.methodLink RX7 129 yX7_renews ∈ sx_ws := sx_wm 1108 (by decide +kernel) rfl
theorem lk_X7_133 : Cond.methodLink RX7 133 yX7_away ∈ sx_ws := sx_wm 1112 (by decide +kernel) rfl
theorem lk_X7_126 : Cond.methodLink RX7 126 yX7_isCopy ∈ sx_ws := sx_wm 1104 (by decide +kernel) rfl
theorem mi_X7_lend : sx_Mi yX7_lend cX7_lend 6 (some .int) 2 := ⟨sx_wm 1103 (by decide +kernel) rfl, sx_wm 63 (by decide +kernel) rfl, by decide, by decide, by decide +kernel⟩
theorem mn_X7_lend : Cond.instanceMethod yX7_lend ∈ sx_ws := sx_wm 1101 (by decide +kernel) rfl
theorem ms_X7_lend : Cond.selects yX7_lend.cls yX7_lend yX7_lend ∈ sx_ws := sx_wm 1102 (by decide +kernel) rfl
theorem mi_X7_owes : sx_Mi yX7_owes cX7_owes 3 (some .boolean) 2 := ⟨sx_wm 1131 (by decide +kernel) rfl, sx_wm 63 (by decide +kernel) rfl, by decide, by decide, by decide +kernel⟩
theorem mn_X7_owes : Cond.instanceMethod yX7_owes ∈ sx_ws := sx_wm 1130 (by decide +kernel) rfl
theorem ms_X7_owes : Cond.selects yX7_owes.cls yX7_owes yX7_owes ∈ sx_ws := sx_wm 38 (by decide +kernel) rfl
theorem lk_X7_137 : Cond.methodLink RX7 137 yX7_owes ∈ sx_ws := sx_wm 1128 (by decide +kernel) rfl
theorem mi_X7_owedBy : sx_Mi yX7_owedBy cX7_owedBy 4 (some .int) 1 := ⟨sx_wm 1127 (by decide +kernel) rfl, sx_wm 63 (by decide +kernel) rfl, by decide, by decide, by decide +kernel⟩
theorem mn_X7_owedBy : Cond.instanceMethod yX7_owedBy ∈ sx_ws := sx_wm 1126 (by decide +kernel) rfl
theorem ms_X7_owedBy : Cond.selects yX7_owedBy.cls yX7_owedBy yX7_owedBy ∈ sx_ws := sx_wm 37 (by decide +kernel) rfl
theorem mi_X7_isAway : sx_Mi yX7_isAway cX7_isAway 2 (some .boolean) 1 := ⟨sx_wm 1123 (by decide +kernel) rfl, sx_wm 63 (by decide +kernel) rfl, by decide, by decide, by decide +kernel⟩
theorem mn_X7_isAway : Cond.instanceMethod yX7_isAway ∈ sx_ws := sx_wm 1122 (by decide +kernel) rfl
theorem ms_X7_isAway : Cond.selects yX7_isAway.cls yX7_isAway yX7_isAway ∈ sx_ws := sx_wm 36 (by decide +kernel) rfl
theorem lk_X7_141 : Cond.methodLink RX7 141 yX7_isAway ∈ sx_ws := sx_wm 1120 (by decide +kernel) rfl
theorem lk_X7_144 : Cond.methodLink RX7 144 yX7_owedBy ∈ sx_ws := sx_wm 1124 (by decide +kernel) rfl
theorem mi_X7_giveBack : sx_Mi yX7_giveBack cX7_giveBack 3 (some .int) 1 := ⟨sx_wm 1119 (by decide +kernel) rfl, sx_wm 63 (by decide +kernel) rfl, by decide, by decide, by decide +kernel⟩
theorem mn_X7_giveBack : Cond.instanceMethod yX7_giveBack ∈ sx_ws := sx_wm 1117 (by decide +kernel) rfl
theorem ms_X7_giveBack : Cond.selects yX7_giveBack.cls yX7_giveBack yX7_giveBack ∈ sx_ws := sx_wm 1118 (by decide +kernel) rfl
theorem mi_X7_paste : sx_Mi yX7_paste cX7_paste 3 (some .int) 1 := ⟨sx_wm 1135 (by decide +kernel) rfl, sx_wm 63 (by decide +kernel) rfl, by decide, by decide, by decide +kernel⟩
theorem mn_X7_paste : Cond.instanceMethod yX7_paste ∈ sx_ws := sx_wm 1133 (by decide +kernel) rfl
theorem ms_X7_paste : Cond.selects yX7_paste.cls yX7_paste yX7_paste ∈ sx_ws := sx_wm 1134 (by decide +kernel) rfl
theorem fl_X7_41 : Cond.fieldLink RX7 41 RX7 "marks" "[I" ∈ sx_ws := sx_wm 957 (by decide +kernel) rfl
theorem fl_X7_44 : Cond.fieldLink RX7 44 RX7 "markedAt" "[I" ∈ sx_ws := sx_wm 958 (by decide +kernel) rfl
theorem mi_X7_mark : sx_Mi yX7_mark cX7_mark 8 (some .int) 3 := ⟨sx_wm 1139 (by decide +kernel) rfl, sx_wm 63 (by decide +kernel) rfl, by decide, by decide, by decide +kernel⟩
theorem mn_X7_mark : Cond.instanceMethod yX7_mark ∈ sx_ws := sx_wm 1137 (by decide +kernel) rfl
theorem ms_X7_mark : Cond.selects yX7_mark.cls yX7_mark yX7_mark ∈ sx_ws := sx_wm 1138 (by decide +kernel) rfl
theorem fl_X7_50 : Cond.fieldLink RX7 50 RX7 "bowedAt" "[I" ∈ sx_ws := sx_wm 960 (by decide +kernel) rfl
theorem fl_X7_47 : Cond.fieldLink RX7 47 RX7 "bowings" "[I" ∈ sx_ws := sx_wm 959 (by decide +kernel) rfl
theorem mi_X7_bowing : sx_Mi yX7_bowing cX7_bowing 5 (some .int) 3 := ⟨sx_wm 1147 (by decide +kernel) rfl, sx_wm 63 (by decide +kernel) rfl, by decide, by decide, by decide +kernel⟩
theorem mn_X7_bowing : Cond.instanceMethod yX7_bowing ∈ sx_ws := sx_wm 1146 (by decide +kernel) rfl
theorem ms_X7_bowing : Cond.selects yX7_bowing.cls yX7_bowing yX7_bowing ∈ sx_ws := sx_wm 39 (by decide +kernel) rfl
theorem lk_X7_148 : Cond.methodLink RX7 148 yX7_bowing ∈ sx_ws := sx_wm 1144 (by decide +kernel) rfl
theorem mi_X7_bow : sx_Mi yX7_bow cX7_bow 9 (some .int) 4 := ⟨sx_wm 1143 (by decide +kernel) rfl, sx_wm 63 (by decide +kernel) rfl, by decide, by decide, by decide +kernel⟩
theorem mn_X7_bow : Cond.instanceMethod yX7_bow ∈ sx_ws := sx_wm 1141 (by decide +kernel) rfl
theorem ms_X7_bow : Cond.selects yX7_bow.cls yX7_bow yX7_bow ∈ sx_ws := sx_wm 1142 (by decide +kernel) rfl
theorem fl_X7_152 : Cond.fieldLink RX7 152 RX7 "concerts" "I" ∈ sx_ws := sx_wm 956 (by decide +kernel) rfl
theorem mi_X7_play : sx_Mi yX7_play cX7_play 3 (some .int) 0 := ⟨sx_wm 1151 (by decide +kernel) rfl, sx_wm 63 (by decide +kernel) rfl, by decide, by decide, by decide +kernel⟩
theorem mn_X7_play : Cond.instanceMethod yX7_play ∈ sx_ws := sx_wm 1149 (by decide +kernel) rfl
theorem ms_X7_play : Cond.selects yX7_play.cls yX7_play yX7_play ∈ sx_ws := sx_wm 1150 (by decide +kernel) rfl
theorem mi_X7_bars : sx_Mi yX7_bars cX7_bars 1 (some .int) 0 := ⟨sx_wm 1155 (by decide +kernel) rfl, sx_wm 63 (by decide +kernel) rfl, by decide, by decide, by decide +kernel⟩
theorem mn_X7_bars : Cond.instanceMethod yX7_bars ∈ sx_ws := sx_wm 1153 (by decide +kernel) rfl
theorem ms_X7_bars : Cond.selects yX7_bars.cls yX7_bars yX7_bars ∈ sx_ws := sx_wm 1154 (by decide +kernel) rfl
theorem mi_X7_notes : sx_Mi yX7_notes cX7_notes 3 (some .int) 2 := ⟨sx_wm 1159 (by decide +kernel) rfl, sx_wm 63 (by decide +kernel) rfl, by decide, by decide, by decide +kernel⟩
theorem mn_X7_notes : Cond.instanceMethod yX7_notes ∈ sx_ws := sx_wm 1157 (by decide +kernel) rfl
theorem ms_X7_notes : Cond.selects yX7_notes.cls yX7_notes yX7_notes ∈ sx_ws := sx_wm 1158 (by decide +kernel) rfl
theorem mi_X7_noteAt : sx_Mi yX7_noteAt cX7_noteAt 5 (some .int) 3 := ⟨sx_wm 1163 (by decide +kernel) rfl, sx_wm 63 (by decide +kernel) rfl, by decide, by decide, by decide +kernel⟩
theorem mn_X7_noteAt : Cond.instanceMethod yX7_noteAt ∈ sx_ws := sx_wm 1161 (by decide +kernel) rfl
theorem ms_X7_noteAt : Cond.selects yX7_noteAt.cls yX7_noteAt yX7_noteAt ∈ sx_ws := sx_wm 1162 (by decide +kernel) rfl
theorem mi_X7_version : sx_Mi yX7_version cX7_version 3 (some .int) 2 := ⟨sx_wm 1167 (by decide +kernel) rfl, sx_wm 63 (by decide +kernel) rfl, by decide, by decide, by decide +kernel⟩
theorem mn_X7_version : Cond.instanceMethod yX7_version ∈ sx_ws := sx_wm 1165 (by decide +kernel) rfl
theorem ms_X7_version : Cond.selects yX7_version.cls yX7_version yX7_version ∈ sx_ws := sx_wm 1166 (by decide +kernel) rfl
theorem mi_X7_time : sx_Mi yX7_time cX7_time 5 (some .int) 1 := ⟨sx_wm 1171 (by decide +kernel) rfl, sx_wm 63 (by decide +kernel) rfl, by decide, by decide, by decide +kernel⟩
theorem mn_X7_time : Cond.instanceMethod yX7_time ∈ sx_ws := sx_wm 1169 (by decide +kernel) rfl
theorem ms_X7_time : Cond.selects yX7_time.cls yX7_time yX7_time ∈ sx_ws := sx_wm 1170 (by decide +kernel) rfl
theorem lk_X7_155 : Cond.methodLink RX7 155 yX7_time ∈ sx_ws := sx_wm 1176 (by decide +kernel) rfl
theorem mi_X7_timeByBars : sx_Mi yX7_timeByBars cX7_timeByBars 2 (some .int) 1 := ⟨sx_wm 1175 (by decide +kernel) rfl, sx_wm 63 (by decide +kernel) rfl, by decide, by decide, by decide +kernel⟩
theorem mn_X7_timeByBars : Cond.instanceMethod yX7_timeByBars ∈ sx_ws := sx_wm 1173 (by decide +kernel) rfl
theorem ms_X7_timeByBars : Cond.selects yX7_timeByBars.cls yX7_timeByBars yX7_timeByBars ∈ sx_ws := sx_wm 1174 (by decide +kernel) rfl
theorem mi_X7_isSilent : sx_Mi yX7_isSilent cX7_isSilent 6 (some .boolean) 2 := ⟨sx_wm 1191 (by decide +kernel) rfl, sx_wm 63 (by decide +kernel) rfl, by decide, by decide, by decide +kernel⟩
theorem mn_X7_isSilent : Cond.instanceMethod yX7_isSilent ∈ sx_ws := sx_wm 1190 (by decide +kernel) rfl
theorem ms_X7_isSilent : Cond.selects yX7_isSilent.cls yX7_isSilent yX7_isSilent ∈ sx_ws := sx_wm 41 (by decide +kernel) rfl
theorem lk_X7_158 : Cond.methodLink RX7 158 yX7_isSilent ∈ sx_ws := sx_wm 1188 (by decide +kernel) rfl
theorem mi_X7_cueFor : sx_Mi yX7_cueFor cX7_cueFor 6 (some .int) 2 := ⟨sx_wm 1199 (by decide +kernel) rfl, sx_wm 63 (by decide +kernel) rfl, by decide, by decide, by decide +kernel⟩
theorem mn_X7_cueFor : Cond.instanceMethod yX7_cueFor ∈ sx_ws := sx_wm 1198 (by decide +kernel) rfl
theorem ms_X7_cueFor : Cond.selects yX7_cueFor.cls yX7_cueFor yX7_cueFor ∈ sx_ws := sx_wm 43 (by decide +kernel) rfl
theorem fl_X7_53 : Cond.fieldLink RX7 53 RX7 "firsts" "[I" ∈ sx_ws := sx_wm 961 (by decide +kernel) rfl
theorem fl_X7_161 : Cond.fieldLink RX7 161 RX7 "items" "I" ∈ sx_ws := sx_wm 964 (by decide +kernel) rfl
theorem fl_X7_56 : Cond.fieldLink RX7 56 RX7 "lasts" "[I" ∈ sx_ws := sx_wm 962 (by decide +kernel) rfl
theorem fl_X7_59 : Cond.fieldLink RX7 59 RX7 "by" "[I" ∈ sx_ws := sx_wm 963 (by decide +kernel) rfl
theorem mi_X7_adds : sx_Mi yX7_adds cX7_adds 4 (none) 3 := ⟨sx_wm 1195 (by decide +kernel) rfl, sx_wm 63 (by decide +kernel) rfl, by decide, by decide, by decide +kernel⟩
theorem mn_X7_adds : Cond.instanceMethod yX7_adds ∈ sx_ws := sx_wm 1194 (by decide +kernel) rfl
theorem ms_X7_adds : Cond.selects yX7_adds.cls yX7_adds yX7_adds ∈ sx_ws := sx_wm 42 (by decide +kernel) rfl
theorem lk_X7_168 : Cond.methodLink RX7 168 yX7_cueFor ∈ sx_ws := sx_wm 1196 (by decide +kernel) rfl
theorem lk_X7_164 : Cond.methodLink RX7 164 yX7_adds ∈ sx_ws := sx_wm 1192 (by decide +kernel) rfl
theorem mi_X7_laysItems : sx_Mi yX7_laysItems cX7_laysItems 5 (none) 1 := ⟨sx_wm 1187 (by decide +kernel) rfl, sx_wm 63 (by decide +kernel) rfl, by decide, by decide, by decide +kernel⟩
theorem mn_X7_laysItems : Cond.instanceMethod yX7_laysItems ∈ sx_ws := sx_wm 1186 (by decide +kernel) rfl
theorem ms_X7_laysItems : Cond.selects yX7_laysItems.cls yX7_laysItems yX7_laysItems ∈ sx_ws := sx_wm 40 (by decide +kernel) rfl
theorem mi_X7_begins : sx_Mi yX7_begins cX7_begins 7 (some .int) 3 := ⟨sx_wm 1227 (by decide +kernel) rfl, sx_wm 63 (by decide +kernel) rfl, by decide, by decide, by decide +kernel⟩
theorem mn_X7_begins : Cond.instanceMethod yX7_begins ∈ sx_ws := sx_wm 1226 (by decide +kernel) rfl
theorem ms_X7_begins : Cond.selects yX7_begins.cls yX7_begins yX7_begins ∈ sx_ws := sx_wm 47 (by decide +kernel) rfl
theorem mi_X7_halvings : sx_Mi yX7_halvings cX7_halvings 3 (some .int) 1 := ⟨sx_wm 1230 (by decide +kernel) rfl, sx_wm 63 (by decide +kernel) rfl, by decide, by decide, by decide +kernel⟩
theorem mt_X7_halvings : Cond.static yX7_halvings ∈ sx_ws := sx_wm 1229 (by decide +kernel) rfl
theorem fl_X7_62 : Cond.fieldLink RX7 62 RX7 "springs" "[I" ∈ sx_ws := sx_wm 965 (by decide +kernel) rfl
theorem lk_X7_171 : Cond.methodLink RX7 171 yX7_begins ∈ sx_ws := sx_wm 1224 (by decide +kernel) rfl
theorem fl_X7_65 : Cond.fieldLink RX7 65 RX7 "ats" "[I" ∈ sx_ws := sx_wm 966 (by decide +kernel) rfl
theorem fl_X7_71 : Cond.fieldLink RX7 71 RX7 "leasts" "[I" ∈ sx_ws := sx_wm 968 (by decide +kernel) rfl
theorem fl_X7_68 : Cond.fieldLink RX7 68 RX7 "widths" "[I" ∈ sx_ws := sx_wm 967 (by decide +kernel) rfl
theorem lk_X7_174 : Cond.methodLink RX7 174 yX7_halvings ∈ sx_ws := sx_wm 1228 (by decide +kernel) rfl
theorem fl_X7_74 : Cond.fieldLink RX7 74 RX7 "itemWidths" "[I" ∈ sx_ws := sx_wm 969 (by decide +kernel) rfl
theorem fl_X7_77 : Cond.fieldLink RX7 77 RX7 "itemLeasts" "[I" ∈ sx_ws := sx_wm 970 (by decide +kernel) rfl
theorem mi_X7_laysSprings : sx_Mi yX7_laysSprings cX7_laysSprings 11 (none) 0 := ⟨sx_wm 1223 (by decide +kernel) rfl, sx_wm 63 (by decide +kernel) rfl, by decide, by decide, by decide +kernel⟩
theorem mn_X7_laysSprings : Cond.instanceMethod yX7_laysSprings ∈ sx_ws := sx_wm 1222 (by decide +kernel) rfl
theorem ms_X7_laysSprings : Cond.selects yX7_laysSprings.cls yX7_laysSprings yX7_laysSprings ∈ sx_ws := sx_wm 46 (by decide +kernel) rfl
theorem mi_X7_silentTo : sx_Mi yX7_silentTo cX7_silentTo 8 (some .int) 2 := ⟨sx_wm 1246 (by decide +kernel) rfl, sx_wm 63 (by decide +kernel) rfl, by decide, by decide, by decide +kernel⟩
theorem mn_X7_silentTo : Cond.instanceMethod yX7_silentTo ∈ sx_ws := sx_wm 1245 (by decide +kernel) rfl
theorem ms_X7_silentTo : Cond.selects yX7_silentTo.cls yX7_silentTo yX7_silentTo ∈ sx_ws := sx_wm 51 (by decide +kernel) rfl
theorem mi_X7_silentFrom : sx_Mi yX7_silentFrom cX7_silentFrom 7 (some .int) 2 := ⟨sx_wm 1250 (by decide +kernel) rfl, sx_wm 63 (by decide +kernel) rfl, by decide, by decide, by decide +kernel⟩
theorem mn_X7_silentFrom : Cond.instanceMethod yX7_silentFrom ∈ sx_ws := sx_wm 1249 (by decide +kernel) rfl
theorem ms_X7_silentFrom : Cond.selects yX7_silentFrom.cls yX7_silentFrom yX7_silentFrom ∈ sx_ws := sx_wm 52 (by decide +kernel) rfl
theorem lk_X7_177 : Cond.methodLink RX7 177 yX7_silentTo ∈ sx_ws := sx_wm 1243 (by decide +kernel) rfl
theorem lk_X7_180 : Cond.methodLink RX7 180 yX7_silentFrom ∈ sx_ws := sx_wm 1247 (by decide +kernel) rfl
theorem mi_X7_turnCost : sx_Mi yX7_turnCost cX7_turnCost 4 (some .int) 2 := ⟨sx_wm 1242 (by decide +kernel) rfl, sx_wm 63 (by decide +kernel) rfl, by decide, by decide, by decide +kernel⟩
theorem mn_X7_turnCost : Cond.instanceMethod yX7_turnCost ∈ sx_ws := sx_wm 1241 (by decide +kernel) rfl
theorem ms_X7_turnCost : Cond.selects yX7_turnCost.cls yX7_turnCost yX7_turnCost ∈ sx_ws := sx_wm 50 (by decide +kernel) rfl
theorem mi_X7_badness : sx_Mi yX7_badness cX7_badness 5 (some .int) 2 := ⟨sx_wm 1238 (by decide +kernel) rfl, sx_wm 63 (by decide +kernel) rfl, by decide, by decide, by decide +kernel⟩
theorem mn_X7_badness : Cond.instanceMethod yX7_badness ∈ sx_ws := sx_wm 1237 (by decide +kernel) rfl
theorem ms_X7_badness : Cond.selects yX7_badness.cls yX7_badness yX7_badness ∈ sx_ws := sx_wm 49 (by decide +kernel) rfl
theorem fl_X7_80 : Cond.fieldLink RX7 80 RX7 "costs" "[I" ∈ sx_ws := sx_wm 971 (by decide +kernel) rfl
theorem fl_X7_83 : Cond.fieldLink RX7 83 RX7 "lines" "[I" ∈ sx_ws := sx_wm 972 (by decide +kernel) rfl
theorem fl_X7_190 : Cond.fieldLink RX7 190 RX7 "lineCount" "I" ∈ sx_ws := sx_wm 975 (by decide +kernel) rfl
theorem fl_X7_193 : Cond.fieldLink RX7 193 RX7 "turned" "I" ∈ sx_ws := sx_wm 976 (by decide +kernel) rfl
theorem fl_X7_86 : Cond.fieldLink RX7 86 RX7 "takes" "[I" ∈ sx_ws := sx_wm 973 (by decide +kernel) rfl
theorem lk_X7_183 : Cond.methodLink RX7 183 yX7_badness ∈ sx_ws := sx_wm 1235 (by decide +kernel) rfl
theorem lk_X7_187 : Cond.methodLink RX7 187 yX7_turnCost ∈ sx_ws := sx_wm 1239 (by decide +kernel) rfl
theorem fl_X7_89 : Cond.fieldLink RX7 89 RX7 "lineOf" "[I" ∈ sx_ws := sx_wm 974 (by decide +kernel) rfl
theorem mi_X7_breaks : sx_Mi yX7_breaks cX7_breaks 12 (none) 1 := ⟨sx_wm 1234 (by decide +kernel) rfl, sx_wm 63 (by decide +kernel) rfl, by decide, by decide, by decide +kernel⟩
theorem mn_X7_breaks : Cond.instanceMethod yX7_breaks ∈ sx_ws := sx_wm 1233 (by decide +kernel) rfl
theorem ms_X7_breaks : Cond.selects yX7_breaks.cls yX7_breaks yX7_breaks ∈ sx_ws := sx_wm 48 (by decide +kernel) rfl
theorem lk_X7_196 : Cond.methodLink RX7 196 yX7_laysItems ∈ sx_ws := sx_wm 1184 (by decide +kernel) rfl
theorem lk_X7_199 : Cond.methodLink RX7 199 yX7_laysSprings ∈ sx_ws := sx_wm 1220 (by decide +kernel) rfl
theorem lk_X7_202 : Cond.methodLink RX7 202 yX7_breaks ∈ sx_ws := sx_wm 1231 (by decide +kernel) rfl
theorem mi_X7_lays : sx_Mi yX7_lays cX7_lays 2 (none) 1 := ⟨sx_wm 1219 (by decide +kernel) rfl, sx_wm 63 (by decide +kernel) rfl, by decide, by decide, by decide +kernel⟩
theorem mn_X7_lays : Cond.instanceMethod yX7_lays ∈ sx_ws := sx_wm 1218 (by decide +kernel) rfl
theorem ms_X7_lays : Cond.selects yX7_lays.cls yX7_lays yX7_lays ∈ sx_ws := sx_wm 45 (by decide +kernel) rfl
theorem mi_X7_itemWith : sx_Mi yX7_itemWith cX7_itemWith 3 (some .int) 1 := ⟨sx_wm 1207 (by decide +kernel) rfl, sx_wm 63 (by decide +kernel) rfl, by decide, by decide, by decide +kernel⟩
theorem mn_X7_itemWith : Cond.instanceMethod yX7_itemWith ∈ sx_ws := sx_wm 1206 (by decide +kernel) rfl
theorem ms_X7_itemWith : Cond.selects yX7_itemWith.cls yX7_itemWith yX7_itemWith ∈ sx_ws := sx_wm 44 (by decide +kernel) rfl
theorem lk_X7_205 : Cond.methodLink RX7 205 yX7_isBook ∈ sx_ws := sx_wm 1181 (by decide +kernel) rfl
theorem mi_X7_items : sx_Mi yX7_items cX7_items 2 (some .int) 1 := ⟨sx_wm 1180 (by decide +kernel) rfl, sx_wm 63 (by decide +kernel) rfl, by decide, by decide, by decide +kernel⟩
theorem mn_X7_items : Cond.instanceMethod yX7_items ∈ sx_ws := sx_wm 1178 (by decide +kernel) rfl
theorem ms_X7_items : Cond.selects yX7_items.cls yX7_items yX7_items ∈ sx_ws := sx_wm 1179 (by decide +kernel) rfl
theorem lk_X7_208 : Cond.methodLink RX7 208 yX7_itemWith ∈ sx_ws := sx_wm 1204 (by decide +kernel) rfl
theorem mi_X7_itemOf : sx_Mi yX7_itemOf cX7_itemOf 3 (some .int) 2 := ⟨sx_wm 1203 (by decide +kernel) rfl, sx_wm 63 (by decide +kernel) rfl, by decide, by decide, by decide +kernel⟩
theorem mn_X7_itemOf : Cond.instanceMethod yX7_itemOf ∈ sx_ws := sx_wm 1201 (by decide +kernel) rfl
theorem ms_X7_itemOf : Cond.selects yX7_itemOf.cls yX7_itemOf yX7_itemOf ∈ sx_ws := sx_wm 1202 (by decide +kernel) rfl
theorem mi_X7_cue : sx_Mi yX7_cue cX7_cue 4 (some .int) 2 := ⟨sx_wm 1211 (by decide +kernel) rfl, sx_wm 63 (by decide +kernel) rfl, by decide, by decide, by decide +kernel⟩
theorem mn_X7_cue : Cond.instanceMethod yX7_cue ∈ sx_ws := sx_wm 1209 (by decide +kernel) rfl
theorem ms_X7_cue : Cond.selects yX7_cue.cls yX7_cue yX7_cue ∈ sx_ws := sx_wm 1210 (by decide +kernel) rfl
theorem lk_X7_211 : Cond.methodLink RX7 211 yX7_lays ∈ sx_ws := sx_wm 1216 (by decide +kernel) rfl
theorem mi_X7_width : sx_Mi yX7_width cX7_width 4 (some .int) 2 := ⟨sx_wm 1215 (by decide +kernel) rfl, sx_wm 63 (by decide +kernel) rfl, by decide, by decide, by decide +kernel⟩
theorem mn_X7_width : Cond.instanceMethod yX7_width ∈ sx_ws := sx_wm 1213 (by decide +kernel) rfl
theorem ms_X7_width : Cond.selects yX7_width.cls yX7_width yX7_width ∈ sx_ws := sx_wm 1214 (by decide +kernel) rfl
theorem mi_X7_lines : sx_Mi yX7_lines cX7_lines 2 (some .int) 1 := ⟨sx_wm 1254 (by decide +kernel) rfl, sx_wm 63 (by decide +kernel) rfl, by decide, by decide, by decide +kernel⟩
theorem mn_X7_lines : Cond.instanceMethod yX7_lines ∈ sx_ws := sx_wm 1252 (by decide +kernel) rfl
theorem ms_X7_lines : Cond.selects yX7_lines.cls yX7_lines yX7_lines ∈ sx_ws := sx_wm 1253 (by decide +kernel) rfl
theorem mi_X7_lineOf : sx_Mi yX7_lineOf cX7_lineOf 3 (some .int) 2 := ⟨sx_wm 1258 (by decide +kernel) rfl, sx_wm 63 (by decide +kernel) rfl, by decide, by decide, by decide +kernel⟩
theorem mn_X7_lineOf : Cond.instanceMethod yX7_lineOf ∈ sx_ws := sx_wm 1256 (by decide +kernel) rfl
theorem ms_X7_lineOf : Cond.selects yX7_lineOf.cls yX7_lineOf yX7_lineOf ∈ sx_ws := sx_wm 1257 (by decide +kernel) rfl
theorem mi_X7_cost : sx_Mi yX7_cost cX7_cost 2 (some .int) 1 := ⟨sx_wm 1262 (by decide +kernel) rfl, sx_wm 63 (by decide +kernel) rfl, by decide, by decide, by decide +kernel⟩
theorem mn_X7_cost : Cond.instanceMethod yX7_cost ∈ sx_ws := sx_wm 1260 (by decide +kernel) rfl
theorem ms_X7_cost : Cond.selects yX7_cost.cls yX7_cost yX7_cost ∈ sx_ws := sx_wm 1261 (by decide +kernel) rfl
theorem lk_X7_214 : Cond.methodLink RX7 214 yX7_cost ∈ sx_ws := sx_wm 1267 (by decide +kernel) rfl
theorem mi_X7_costByAll : sx_Mi yX7_costByAll cX7_costByAll 2 (some .int) 1 := ⟨sx_wm 1266 (by decide +kernel) rfl, sx_wm 63 (by decide +kernel) rfl, by decide, by decide, by decide +kernel⟩
theorem mn_X7_costByAll : Cond.instanceMethod yX7_costByAll ∈ sx_ws := sx_wm 1264 (by decide +kernel) rfl
theorem ms_X7_costByAll : Cond.selects yX7_costByAll.cls yX7_costByAll yX7_costByAll ∈ sx_ws := sx_wm 1265 (by decide +kernel) rfl
theorem mi_X7_turns : sx_Mi yX7_turns cX7_turns 2 (some .int) 1 := ⟨sx_wm 1271 (by decide +kernel) rfl, sx_wm 63 (by decide +kernel) rfl, by decide, by decide, by decide +kernel⟩
theorem mn_X7_turns : Cond.instanceMethod yX7_turns ∈ sx_ws := sx_wm 1269 (by decide +kernel) rfl
theorem ms_X7_turns : Cond.selects yX7_turns.cls yX7_turns yX7_turns ∈ sx_ws := sx_wm 1270 (by decide +kernel) rfl
theorem mi_X7_springAt : sx_Mi yX7_springAt cX7_springAt 5 (some .int) 2 := ⟨sx_wm 1279 (by decide +kernel) rfl, sx_wm 63 (by decide +kernel) rfl, by decide, by decide, by decide +kernel⟩
theorem mn_X7_springAt : Cond.instanceMethod yX7_springAt ∈ sx_ws := sx_wm 1278 (by decide +kernel) rfl
theorem ms_X7_springAt : Cond.selects yX7_springAt.cls yX7_springAt yX7_springAt ∈ sx_ws := sx_wm 53 (by decide +kernel) rfl
theorem mi_X7_placeOf : sx_Mi yX7_placeOf cX7_placeOf 14 (some .int) 2 := ⟨sx_wm 1283 (by decide +kernel) rfl, sx_wm 63 (by decide +kernel) rfl, by decide, by decide, by decide +kernel⟩
theorem mn_X7_placeOf : Cond.instanceMethod yX7_placeOf ∈ sx_ws := sx_wm 1282 (by decide +kernel) rfl
theorem ms_X7_placeOf : Cond.selects yX7_placeOf.cls yX7_placeOf yX7_placeOf ∈ sx_ws := sx_wm 54 (by decide +kernel) rfl
theorem lk_X7_217 : Cond.methodLink RX7 217 yX7_springAt ∈ sx_ws := sx_wm 1276 (by decide +kernel) rfl
theorem lk_X7_220 : Cond.methodLink RX7 220 yX7_placeOf ∈ sx_ws := sx_wm 1280 (by decide +kernel) rfl
theorem mi_X7_place : sx_Mi yX7_place cX7_place 6 (some .int) 3 := ⟨sx_wm 1275 (by decide +kernel) rfl, sx_wm 63 (by decide +kernel) rfl, by decide, by decide, by decide +kernel⟩
theorem mn_X7_place : Cond.instanceMethod yX7_place ∈ sx_ws := sx_wm 1273 (by decide +kernel) rfl
theorem ms_X7_place : Cond.selects yX7_place.cls yX7_place yX7_place ∈ sx_ws := sx_wm 1274 (by decide +kernel) rfl
theorem mi_X7_copies : sx_Mi yX7_copies cX7_copies 1 (some .int) 0 := ⟨sx_wm 1287 (by decide +kernel) rfl, sx_wm 63 (by decide +kernel) rfl, by decide, by decide, by decide +kernel⟩
theorem mn_X7_copies : Cond.instanceMethod yX7_copies ∈ sx_ws := sx_wm 1285 (by decide +kernel) rfl
theorem ms_X7_copies : Cond.selects yX7_copies.cls yX7_copies yX7_copies ∈ sx_ws := sx_wm 1286 (by decide +kernel) rfl
theorem mi_X7_deskOf : sx_Mi yX7_deskOf cX7_deskOf 2 (some .int) 1 := ⟨sx_wm 1291 (by decide +kernel) rfl, sx_wm 63 (by decide +kernel) rfl, by decide, by decide, by decide +kernel⟩
theorem mn_X7_deskOf : Cond.instanceMethod yX7_deskOf ∈ sx_ws := sx_wm 1289 (by decide +kernel) rfl
theorem ms_X7_deskOf : Cond.selects yX7_deskOf.cls yX7_deskOf yX7_deskOf ∈ sx_ws := sx_wm 1290 (by decide +kernel) rfl
theorem mi_X7_has : sx_Mi yX7_has cX7_has 3 (some .int) 2 := ⟨sx_wm 1295 (by decide +kernel) rfl, sx_wm 63 (by decide +kernel) rfl, by decide, by decide, by decide +kernel⟩
theorem mn_X7_has : Cond.instanceMethod yX7_has ∈ sx_ws := sx_wm 1293 (by decide +kernel) rfl
theorem ms_X7_has : Cond.selects yX7_has.cls yX7_has yX7_has ∈ sx_ws := sx_wm 1294 (by decide +kernel) rfl
theorem mi_X7_owed : sx_Mi yX7_owed cX7_owed 2 (some .int) 1 := ⟨sx_wm 1299 (by decide +kernel) rfl, sx_wm 63 (by decide +kernel) rfl, by decide, by decide, by decide +kernel⟩
theorem mn_X7_owed : Cond.instanceMethod yX7_owed ∈ sx_ws := sx_wm 1297 (by decide +kernel) rfl
theorem ms_X7_owed : Cond.selects yX7_owed.cls yX7_owed yX7_owed ∈ sx_ws := sx_wm 1298 (by decide +kernel) rfl
theorem mi_X7_markOf : sx_Mi yX7_markOf cX7_markOf 5 (some .int) 3 := ⟨sx_wm 1303 (by decide +kernel) rfl, sx_wm 63 (by decide +kernel) rfl, by decide, by decide, by decide +kernel⟩
theorem mn_X7_markOf : Cond.instanceMethod yX7_markOf ∈ sx_ws := sx_wm 1301 (by decide +kernel) rfl
theorem ms_X7_markOf : Cond.selects yX7_markOf.cls yX7_markOf yX7_markOf ∈ sx_ws := sx_wm 1302 (by decide +kernel) rfl
theorem mi_X7_oldMarks : sx_Mi yX7_oldMarks cX7_oldMarks 5 (some .int) 1 := ⟨sx_wm 1307 (by decide +kernel) rfl, sx_wm 63 (by decide +kernel) rfl, by decide, by decide, by decide +kernel⟩
theorem mn_X7_oldMarks : Cond.instanceMethod yX7_oldMarks ∈ sx_ws := sx_wm 1305 (by decide +kernel) rfl
theorem ms_X7_oldMarks : Cond.selects yX7_oldMarks.cls yX7_oldMarks yX7_oldMarks ∈ sx_ws := sx_wm 1306 (by decide +kernel) rfl
theorem mi_X7_clashes : sx_Mi yX7_clashes cX7_clashes 10 (some .int) 1 := ⟨sx_wm 1311 (by decide +kernel) rfl, sx_wm 63 (by decide +kernel) rfl, by decide, by decide, by decide +kernel⟩
theorem mn_X7_clashes : Cond.instanceMethod yX7_clashes ∈ sx_ws := sx_wm 1309 (by decide +kernel) rfl
theorem ms_X7_clashes : Cond.selects yX7_clashes.cls yX7_clashes yX7_clashes ∈ sx_ws := sx_wm 1310 (by decide +kernel) rfl
theorem mi_X7_concerts : sx_Mi yX7_concerts cX7_concerts 1 (some .int) 0 := ⟨sx_wm 1315 (by decide +kernel) rfl, sx_wm 63 (by decide +kernel) rfl, by decide, by decide, by decide +kernel⟩
theorem mn_X7_concerts : Cond.instanceMethod yX7_concerts ∈ sx_ws := sx_wm 1313 (by decide +kernel) rfl
theorem ms_X7_concerts : Cond.selects yX7_concerts.cls yX7_concerts yX7_concerts ∈ sx_ws := sx_wm 1314 (by decide +kernel) rfl
end
section
def P_X6_slotOf (f : sx_F) (x0 : Int32) (x1 : Int32) (Q : Int32 → Prop) : Prop :=
  Q ((x0 * 12) + x1)
def P_X4_pitchAt (f : sx_F) (x1 : Int32) (x2 : Int32) (Q : Int32 → Prop) : Prop :=
  (vp_in ((x1 * 8) + x2) 480 ∧ Q (f 7 ((x1 * 8) + x2).toNatClampNeg))
def P_X4_isSilent (f : sx_F) (x1 : Int32) (x2 : Int32) (Q : Int32 → Prop) : Prop :=
  ∀ (B9 : Int32 → Int32 → Prop),
  (∀ (v3 : Int32) (v4 : Int32), (vp_in v3 60 ∧ (((f 5 v3.toNatClampNeg) ≤ v4 → Q 1) ∧ (¬ (f 5 v3.toNatClampNeg) ≤ v4 → (P_X4_pitchAt f v3 v4 (fun r2 => ((r2 ≤ 0 → (∀ y5 : Int32, y5 = v4 + 1 → B9 v3 y5)) ∧ (¬ r2 ≤ 0 → Q 0))))))) → B9 v3 v4) →
  (P_X6_slotOf f x1 x2 (fun r6 => B9 r6 0))
def P_X4_cuePlayer (f : sx_F) (x1 : Int32) (x2 : Int32) (Q : Int32 → Prop) : Prop :=
  ∀ (B61 : Prop),
  ∀ (B62 : Int32 → Prop),
  ∀ (B78 : Int32 → Int32 → Int32 → Prop),
  ∀ (B128 : Int32 → Int32 → Int32 → Prop),
  (B62 0 → B61 ) →
  (∀ (s0 : Int32), ((s0 = 0 → Q (-1)) ∧ (¬ s0 = 0 → B78 (-1) 0 0)) → B62 s0) →
  (∀ (v4 : Int32) (v5 : Int32) (v6 : Int32), ((5 ≤ v6 → Q v4) ∧ (¬ 5 ≤ v6 → (P_X6_slotOf f v6 x2 (fun r3 => (vp_in r3 60 ∧ (∀ y5 : Int32, y5 = (f 5 r3.toNatClampNeg) → ((v6 = x1 → B128 v4 v5 v6) ∧ (¬ v6 = x1 → ((y5 ≤ v5 → B128 v4 v5 v6) ∧ (¬ y5 ≤ v5 → (P_X4_isSilent f v6 x2 (fun r8 => ((r8 = 0 → B128 v6 y5 v6) ∧ (¬ r8 = 0 → B128 v4 v5 v6)))))))))))))) → B78 v4 v5 v6) →
  (∀ (v4 : Int32) (v5 : Int32) (v6 : Int32), (∀ y11 : Int32, y11 = v6 + 1 → B78 v4 v5 y11) → B128 v4 v5 v6) →
  ((x2 < 2 → B61) ∧ (¬ x2 < 2 → (((f 1 0) ≤ (x2 + 1) → B61) ∧ (¬ (f 1 0) ≤ (x2 + 1) → (P_X4_isSilent f x1 (x2 - 2) (fun r14 => ((r14 = 0 → B61) ∧ (¬ r14 = 0 → (P_X4_isSilent f x1 (x2 - 1) (fun r17 => ((r17 = 0 → B61) ∧ (¬ r17 = 0 → (P_X4_isSilent f x1 x2 (fun r20 => ((r20 = 0 → B61) ∧ (¬ r20 = 0 → (P_X4_isSilent f x1 (x2 + 1) (fun r23 => ((r23 = 0 → B62 1) ∧ (¬ r23 = 0 → B61))))))))))))))))))))
def P_X0_drawerOf (f : sx_F) (x1 : Int32) (Q : Int32 → Prop) : Prop :=
  ∀ (B23 : Prop),
  (Q (f 8 2) → B23 ) →
  (((f 8 2) = 5 → B23) ∧ (¬ (f 8 2) = 5 → (P_X4_isSilent f (f 8 2) x1 (fun r2 => ((r2 = 0 → B23) ∧ (¬ r2 = 0 → (P_X4_cuePlayer f (f 8 2) x1 (fun r5 => Q r5))))))))
def P_X5_addSpring (f : sx_F) (x1 : Int32) (x2 : Int32) (x3 : Int32) (Q : sx_F → Prop) : Prop :=
  (vp_in (f 9 0) 32 ∧ ∀ g1 : sx_F, g1 = sx_u f 10 (f 9 0).toNatClampNeg x1 → (vp_in (g1 9 0) 33 ∧ (vp_in ((g1 9 0) + 1) 33 ∧ ∀ g2 : sx_F, g2 = sx_u g1 11 ((g1 9 0) + 1).toNatClampNeg ((g1 11 (g1 9 0).toNatClampNeg) + x2) → (vp_in (g2 9 0) 33 ∧ (vp_in ((g2 9 0) + 1) 33 ∧ ∀ g3 : sx_F, g3 = sx_u g2 12 ((g2 9 0) + 1).toNatClampNeg ((g2 12 (g2 9 0).toNatClampNeg) + x3) → (∀ g4 : sx_F, g4 = sx_u g3 9 0 ((g3 9 0) + 1) → Q g4))))))
def P_J7_fill_53178 (f : sx_F) (k0 : Nat) (Nk0 : Nat) (x1 : Int32) (Q : sx_F → Prop) : Prop :=
  ∀ (B5 : sx_F → Int32 → Int32 → Prop),
  (∀ (f : sx_F) (v2 : Int32) (v3 : Int32), ((v3 ≤ v2 → Q f) ∧ (¬ v3 ≤ v2 → (vp_in v2 Nk0 ∧ ∀ g2 : sx_F, g2 = sx_u f k0 v2.toNatClampNeg x1 → (∀ y3 : Int32, y3 = v2 + 1 → B5 g2 y3 v3)))) → B5 f v2 v3) →
  (∀ y4 : Int32, y4 = (Int32.ofNat Nk0) → B5 f 0 y4)
def P_X5_addPlace (f : sx_F) (x1 : Int32) (x2 : Int32) (Q : sx_F → Prop) : Prop :=
  ∀ (B17 : sx_F → Prop),
  (∀ (f : sx_F), ((x2 = 0 → Q f) ∧ (¬ x2 = 0 → (vp_in x1 32 ∧ (vp_in x1 32 ∧ ∀ g2 : sx_F, g2 = sx_u f 13 x1.toNatClampNeg ((f 13 x1.toNatClampNeg) + 1) → Q g2)))) → B17 f) →
  (vp_in x1 32 ∧ (((f 13 x1.toNatClampNeg) = (-1) → (vp_in x1 32 ∧ ∀ g4 : sx_F, g4 = sx_u f 13 x1.toNatClampNeg 0 → B17 g4)) ∧ (¬ (f 13 x1.toNatClampNeg) = (-1) → B17 f)))
def P_X4_lengthAt (f : sx_F) (x1 : Int32) (x2 : Int32) (Q : Int32 → Prop) : Prop :=
  (vp_in ((x1 * 8) + x2) 480 ∧ Q (f 6 ((x1 * 8) + x2).toNatClampNeg))
def P_X5_addPlaces (f : sx_F) (x2 : Int32) (x3 : Int32) (Q : sx_F → Prop) : Prop :=
  ∀ (B6 : sx_F → Int32 → Int32 → Prop),
  ∀ (B41 : sx_F → Int32 → Int32 → Int32 → Int32 → Prop),
  ∀ (B62 : sx_F → Int32 → Prop),
  (∀ (f : sx_F) (v4 : Int32) (v5 : Int32), (vp_in x2 60 ∧ (((f 5 x2.toNatClampNeg) ≤ v5 → B62 f v4) ∧ (¬ (f 5 x2.toNatClampNeg) ≤ v5 → ((x3 ≤ v4 → B62 f v4) ∧ (¬ x3 ≤ v4 → (P_X4_pitchAt f x2 v5 (fun r3 => ((r3 ≤ 0 → B41 f v4 v5 v4 0) ∧ (¬ r3 ≤ 0 → B41 f v4 v5 v4 1))))))))) → B6 f v4 v5) →
  (∀ (f : sx_F) (v4 : Int32) (v5 : Int32) (s1 : Int32) (s2 : Int32), (P_X5_addPlace f s1 s2 (fun g6 => (P_X4_lengthAt g6 x2 v5 (fun r7 => (∀ y9 : Int32, y9 = (v4 + r7) → (∀ y10 : Int32, y10 = v5 + 1 → B6 g6 y9 y10)))))) → B41 f v4 v5 s1 s2) →
  (∀ (f : sx_F) (v4 : Int32), ((x3 ≤ v4 → Q f) ∧ (¬ x3 ≤ v4 → (P_X5_addPlace f v4 0 (fun g12 => Q g12)))) → B62 f v4) →
  B6 f 0 0
def P_X5_nextPlace (f : sx_F) (x1 : Int32) (x2 : Int32) (Q : Int32 → Prop) : Prop :=
  ∀ (B4 : Int32 → Prop),
  (∀ (v3 : Int32), ((x2 ≤ v3 → Q x2) ∧ (¬ x2 ≤ v3 → (vp_in v3 32 ∧ (((f 13 v3.toNatClampNeg) = (-1) → (∀ y3 : Int32, y3 = v3 + 1 → B4 y3)) ∧ (¬ (f 13 v3.toNatClampNeg) = (-1) → Q v3))))) → B4 v3) →
  (∀ y4 : Int32, y4 = (x1 + 1) → B4 y4)
def P_X5_naturalWidth (f : sx_F) (x0 : Int32) (Q : Int32 → Prop) : Prop :=
  ∀ (B5 : Int32 → Int32 → Prop),
  (∀ (v1 : Int32) (v2 : Int32), ((v2 ≤ 1 → Q v1) ∧ (¬ v2 ≤ 1 → (∀ y2 : Int32, y2 = v1 + 3 → (∀ y3 : Int32, y3 = (v2 / 2) → B5 y2 y3)))) → B5 v1 v2) →
  B5 6 x0
def P_X5_addSprings (f : sx_F) (x1 : Int32) (Q : sx_F → Prop) : Prop :=
  ∀ (B2 : sx_F → Int32 → Prop),
  ∀ (B51 : sx_F → Int32 → Prop),
  (∀ (f : sx_F) (v2 : Int32), ((x1 ≤ v2 → Q f) ∧ (¬ x1 ≤ v2 → (vp_in v2 32 ∧ (((f 13 v2.toNatClampNeg) = (-1) → B51 f v2) ∧ (¬ (f 13 v2.toNatClampNeg) = (-1) → (vp_in v2 32 ∧ (∀ y3 : Int32, y3 = (4 + (f 13 v2.toNatClampNeg)) → (P_X5_nextPlace f v2 x1 (fun r4 => (P_X5_naturalWidth f (r4 - v2) (fun r6 => (P_X5_addSpring f v2 (if r6 < y3 then y3 else r6) y3 (fun g8 => B51 g8 v2))))))))))))) → B2 f v2) →
  (∀ (f : sx_F) (v2 : Int32), (∀ y9 : Int32, y9 = v2 + 1 → B2 f y9) → B51 f v2) →
  B2 f 0
def P_X5_draw (f : sx_F) (x2 : Int32) (x3 : Int32) (Q : sx_F → Prop) : Prop :=
  ∀ (B31 : sx_F → Int32 → Prop),
  ∀ (B48 : sx_F → Int32 → Prop),
  ∀ (B65 : sx_F → Int32 → Prop),
  (∀ (f : sx_F) (v4 : Int32), ((5 ≤ v4 → (vp_in x3 12 ∧ (P_X5_addSprings f (f 2 x3.toNatClampNeg) (fun g2 => Q g2)))) ∧ (¬ 5 ≤ v4 → ((x2 = 5 → B48 f v4) ∧ (¬ x2 = 5 → ((x2 = v4 → B48 f v4) ∧ (¬ x2 = v4 → B65 f v4)))))) → B31 f v4) →
  (∀ (f : sx_F) (v4 : Int32), (P_X6_slotOf f v4 x3 (fun r5 => (vp_in x3 12 ∧ (P_X5_addPlaces f r5 (f 2 x3.toNatClampNeg) (fun g7 => B65 g7 v4))))) → B48 f v4) →
  (∀ (f : sx_F) (v4 : Int32), (∀ y8 : Int32, y8 = v4 + 1 → B31 f y8) → B65 f v4) →
  (∀ g9 : sx_F, g9 = sx_u f 9 0 0 → ((x2 = (-1) → (P_X5_addSpring g9 0 24 16 (fun g12 => Q g12))) ∧ (¬ x2 = (-1) → (P_J7_fill_53178 g9 13 32 (-1) (fun g11 => B31 g11 0)))))
def P_X5_widthOfAll (f : sx_F)  (Q : Int32 → Prop) : Prop :=
  (vp_in (f 9 0) 33 ∧ Q (f 11 (f 9 0).toNatClampNeg))
def P_X5_leastOfAll (f : sx_F)  (Q : Int32 → Prop) : Prop :=
  (vp_in (f 9 0) 33 ∧ Q (f 12 (f 9 0).toNatClampNeg))
def P_X0_addItem (f : sx_F) (x1 : Int32) (x2 : Int32) (Q : sx_F → Prop) : Prop :=
  (vp_in (f 8 3) 12 ∧ ∀ g1 : sx_F, g1 = sx_u f 14 (f 8 3).toNatClampNeg x1 → (vp_in (g1 8 3) 12 ∧ ∀ g2 : sx_F, g2 = sx_u g1 16 (g1 8 3).toNatClampNeg x2 → (P_X5_draw g2 x2 x1 (fun g3 => (vp_in (g3 8 3) 13 ∧ (P_X5_widthOfAll g3 (fun r4 => (vp_in ((g3 8 3) + 1) 13 ∧ ∀ g6 : sx_F, g6 = sx_u g3 17 ((g3 8 3) + 1).toNatClampNeg ((g3 17 (g3 8 3).toNatClampNeg) + r4) → (vp_in (g6 8 3) 13 ∧ (P_X5_leastOfAll g6 (fun r7 => (vp_in ((g6 8 3) + 1) 13 ∧ ∀ g9 : sx_F, g9 = sx_u g6 18 ((g6 8 3) + 1).toNatClampNeg ((g6 18 (g6 8 3).toNatClampNeg) + r7) → (∀ g10 : sx_F, g10 = sx_u g9 8 3 ((g9 8 3) + 1) → Q g10)))))))))))))
def P_X0_gather (f : sx_F) (x1 : Int32) (Q : sx_F → Prop) : Prop :=
  ∀ (B12 : sx_F → Int32 → Prop),
  ∀ (B60 : sx_F → Int32 → Int32 → Prop),
  ∀ (B61 : sx_F → Int32 → Int32 → Int32 → Prop),
  ∀ (B74 : sx_F → Int32 → Prop),
  (∀ (f : sx_F) (v2 : Int32), (((f 1 0) ≤ v2 → Q f) ∧ (¬ (f 1 0) ≤ v2 → (P_X0_drawerOf f v2 (fun r2 => ((r2 = (-1) → (((f 8 3) ≤ 0 → B60 f v2 r2) ∧ (¬ (f 8 3) ≤ 0 → (vp_in ((f 8 3) - 1) 12 ∧ (((f 16 ((f 8 3) - 1).toNatClampNeg) = (-1) → B61 f v2 r2 1) ∧ (¬ (f 16 ((f 8 3) - 1).toNatClampNeg) = (-1) → B60 f v2 r2)))))) ∧ (¬ r2 = (-1) → B60 f v2 r2)))))) → B12 f v2) →
  (∀ (f : sx_F) (v2 : Int32) (v3 : Int32), B61 f v2 v3 0 → B60 f v2 v3) →
  (∀ (f : sx_F) (v2 : Int32) (v3 : Int32) (s0 : Int32), ((s0 = 0 → (P_X0_addItem f v2 v3 (fun g8 => B74 g8 v2))) ∧ (¬ s0 = 0 → B74 f v2)) → B61 f v2 v3 s0) →
  (∀ (f : sx_F) (v2 : Int32), (vp_in v2 12 ∧ ∀ g9 : sx_F, g9 = sx_u f 15 v2.toNatClampNeg ((f 8 3) - 1) → (∀ y10 : Int32, y10 = v2 + 1 → B12 g9 y10)) → B74 f v2) →
  (∀ g11 : sx_F, g11 = sx_u f 8 2 x1 → (∀ g12 : sx_F, g12 = sx_u g11 8 3 0 → B12 g12 0))
def P_X5_springFrom (f : sx_F) (x1 : Int32) (Q : Int32 → Prop) : Prop :=
  ∀ (B2 : Int32 → Prop),
  (∀ (v2 : Int32), (((f 9 0) ≤ v2 → Q (-1)) ∧ (¬ (f 9 0) ≤ v2 → (vp_in v2 32 ∧ (((f 10 v2.toNatClampNeg) = x1 → Q v2) ∧ (¬ (f 10 v2.toNatClampNeg) = x1 → (∀ y3 : Int32, y3 = v2 + 1 → B2 y3)))))) → B2 v2) →
  B2 0
def P_X0_drawSpring (f : sx_F) (x1 : Int32) (x2 : Int32) (Q : Int32 → sx_F → Prop) : Prop :=
  (vp_in x1 12 ∧ (∀ y1 : Int32, y1 = (f 15 x1.toNatClampNeg) → (vp_in y1 12 ∧ (vp_in y1 12 ∧ (P_X5_draw f (f 16 y1.toNatClampNeg) (f 14 y1.toNatClampNeg) (fun g2 => (vp_in y1 12 ∧ (((g2 14 y1.toNatClampNeg) = x1 → (P_X5_springFrom g2 x2 (fun r4 => Q r4 g2))) ∧ (¬ (g2 14 y1.toNatClampNeg) = x1 → Q (-1) g2)))))))))
def P_X0_widthOf (f : sx_F) (x1 : Int32) (x2 : Int32) (Q : Int32 → Prop) : Prop :=
  (vp_in x2 13 ∧ (vp_in x1 13 ∧ Q (((8 * (x2 - x1)) + (f 17 x2.toNatClampNeg)) - (f 17 x1.toNatClampNeg))))
def P_X0_leastOf (f : sx_F) (x1 : Int32) (x2 : Int32) (Q : Int32 → Prop) : Prop :=
  (vp_in x2 13 ∧ (vp_in x1 13 ∧ Q (((8 * (x2 - x1)) + (f 18 x2.toNatClampNeg)) - (f 18 x1.toNatClampNeg))))
def P_X1_isOut (f : sx_F) (o0 : Nat) (Q : Int32 → Prop) : Prop :=
  (((f o0 2) = (-1) → Q 0) ∧ (¬ (f o0 2) = (-1) → Q 1))
def P_X1_scoreVersion (f : sx_F) (o0 : Nat) (x1 : Int32) (Q : Int32 → Prop) : Prop :=
  (P_X6_slotOf f (f o0 1) x1 (fun r1 => (vp_in r1 60 ∧ Q (f 4 r1.toNatClampNeg))))
def P_X1_takeVersions (f : sx_F) (o0 : Nat) (Q : sx_F → Prop) : Prop :=
  ∀ (B2 : sx_F → Int32 → Prop),
  ∀ (B33 : sx_F → Int32 → Int32 → Int32 → Prop),
  (∀ (f : sx_F) (v1 : Int32), ((12 ≤ v1 → Q f) ∧ (¬ 12 ≤ v1 → (((f 1 0) ≤ v1 → B33 f v1 v1 (-1)) ∧ (¬ (f 1 0) ≤ v1 → (P_X1_scoreVersion f o0 v1 (fun r3 => B33 f v1 v1 r3)))))) → B2 f v1) →
  (∀ (f : sx_F) (v1 : Int32) (s1 : Int32) (s2 : Int32), (vp_in s1 12 ∧ ∀ g5 : sx_F, g5 = sx_u f (o0 + 1) s1.toNatClampNeg s2 → (∀ y6 : Int32, y6 = v1 + 1 → B2 g5 y6)) → B33 f v1 s1 s2) →
  B2 f 0
def P_X1_versionOf (f : sx_F) (o0 : Nat) (x1 : Int32) (Q : Int32 → Prop) : Prop :=
  (P_X1_isOut f o0 (fun r1 => ((r1 = 0 → (P_X1_scoreVersion f o0 x1 (fun r4 => Q r4))) ∧ (¬ r1 = 0 → (vp_in x1 12 ∧ Q (f (o0 + 1) x1.toNatClampNeg))))))
def P_X1_lacks (f : sx_F) (o0 : Nat) (x1 : Int32) (Q : Int32 → Prop) : Prop :=
  (P_X1_versionOf f o0 x1 (fun r1 => ((r1 = (-1) → Q 1) ∧ (¬ r1 = (-1) → Q 0))))
def P_X1_owes (f : sx_F) (o0 : Nat) (x1 : Int32) (Q : Int32 → Prop) : Prop :=
  (P_X1_versionOf f o0 x1 (fun r1 => (P_X1_scoreVersion f o0 x1 (fun r3 => ((r1 = r3 → Q 0) ∧ (¬ r1 = r3 → Q 1))))))
def P_X1_countDebts (f : sx_F) (o0 : Nat) (Q : Int32 → Prop) : Prop :=
  ∀ (B4 : Int32 → Int32 → Prop),
  ∀ (B26 : Int32 → Int32 → Prop),
  (∀ (v1 : Int32) (v2 : Int32), (((f 1 0) ≤ v2 → Q v1) ∧ (¬ (f 1 0) ≤ v2 → (P_X1_owes f o0 v2 (fun r2 => ((r2 = 0 → B26 v1 v2) ∧ (¬ r2 = 0 → (∀ y5 : Int32, y5 = v1 + 1 → B26 y5 v2))))))) → B4 v1 v2) →
  (∀ (v1 : Int32) (v2 : Int32), (∀ y6 : Int32, y6 = v2 + 1 → B4 v1 y6) → B26 v1 v2) →
  B4 0 0
def P_X2_changeMark (f : sx_F) (o0 : Nat) (x1 : Int32) (x2 : Int32) (x3 : Int32) (Q : Int32 → sx_F → Prop) : Prop :=
  (vp_in x1 60 ∧ (∀ y1 : Int32, y1 = (f (o0 + 1) x1.toNatClampNeg) → (vp_in x1 60 ∧ ∀ g2 : sx_F, g2 = sx_u f (o0 + 1) x1.toNatClampNeg x2 → (vp_in x1 60 ∧ ∀ g3 : sx_F, g3 = sx_u g2 (o0 + 2) x1.toNatClampNeg x3 → Q y1 g3))))
def P_X2_countOldMarks (f : sx_F) (o0 : Nat) (Q : Int32 → Prop) : Prop :=
  ∀ (B4 : Int32 → Int32 → Prop),
  ∀ (B37 : Int32 → Int32 → Prop),
  (∀ (v2 : Int32) (v3 : Int32), ((60 ≤ v3 → Q v2) ∧ (¬ 60 ≤ v3 → (vp_in v3 60 ∧ (((f (o0 + 1) v3.toNatClampNeg) = 0 → B37 v2 v3) ∧ (¬ (f (o0 + 1) v3.toNatClampNeg) = 0 → (vp_in v3 60 ∧ (vp_in v3 60 ∧ (((f (o0 + 2) v3.toNatClampNeg) = (f 4 v3.toNatClampNeg) → B37 v2 v3) ∧ (¬ (f (o0 + 2) v3.toNatClampNeg) = (f 4 v3.toNatClampNeg) → (∀ y4 : Int32, y4 = v2 + 1 → B37 y4 v3)))))))))) → B4 v2 v3) →
  (∀ (v2 : Int32) (v3 : Int32), (∀ y5 : Int32, y5 = v3 + 1 → B4 v2 y5) → B37 v2 v3) →
  B4 0 0
def P_X2_bowingAt (f : sx_F) (o0 : Nat) (x1 : Int32) (x2 : Int32) (x3 : Int32) (Q : Int32 → Prop) : Prop :=
  (vp_in x1 60 ∧ (((f (o0 + 4) x1.toNatClampNeg) = x3 → (vp_in x1 60 ∧ Q (((f (o0 + 3) x1.toNatClampNeg) >>> ((2 * x2) &&& 31)) &&& 3))) ∧ (¬ (f (o0 + 4) x1.toNatClampNeg) = x3 → Q 0)))
def P_X2_changeBowing (f : sx_F) (o0 : Nat) (x1 : Int32) (x2 : Int32) (x3 : Int32) (x4 : Int32) (Q : Int32 → sx_F → Prop) : Prop :=
  ∀ (B36 : sx_F → Int32 → Prop),
  (∀ (f : sx_F) (v5 : Int32), (vp_in x1 60 ∧ (vp_in x1 60 ∧ ∀ g1 : sx_F, g1 = sx_u f (o0 + 3) x1.toNatClampNeg (((f (o0 + 3) x1.toNatClampNeg) &&& ((3 <<< ((2 * x2) &&& 31)) ^^^ (-1))) ||| (x3 <<< ((2 * x2) &&& 31))) → Q v5 g1)) → B36 f v5) →
  (P_X2_bowingAt f o0 x1 x2 x4 (fun r2 => (vp_in x1 60 ∧ (((f (o0 + 4) x1.toNatClampNeg) = x4 → B36 f r2) ∧ (¬ (f (o0 + 4) x1.toNatClampNeg) = x4 → (vp_in x1 60 ∧ ∀ g5 : sx_F, g5 = sx_u f (o0 + 4) x1.toNatClampNeg x4 → (vp_in x1 60 ∧ ∀ g6 : sx_F, g6 = sx_u g5 (o0 + 3) x1.toNatClampNeg 0 → B36 g6 r2)))))))
def P_X4_silenceAtEnd (f : sx_F) (x1 : Int32) (x2 : Int32) (Q : Int32 → Prop) : Prop :=
  ∀ (B15 : Int32 → Int32 → Int32 → Int32 → Prop),
  ∀ (B52 : Int32 → Int32 → Int32 → Int32 → Prop),
  (∀ (v3 : Int32) (v4 : Int32) (v5 : Int32) (v6 : Int32), (vp_in v3 60 ∧ (((f 5 v3.toNatClampNeg) ≤ v6 → (vp_in x2 12 ∧ Q ((f 2 x2.toNatClampNeg) - v5))) ∧ (¬ (f 5 v3.toNatClampNeg) ≤ v6 → (P_X4_lengthAt f v3 v6 (fun r2 => (∀ y4 : Int32, y4 = (v4 + r2) → (P_X4_pitchAt f v3 v6 (fun r5 => ((r5 ≤ 0 → B52 v3 y4 v5 v6) ∧ (¬ r5 ≤ 0 → B52 v3 y4 y4 v6)))))))))) → B15 v3 v4 v5 v6) →
  (∀ (v3 : Int32) (v4 : Int32) (v5 : Int32) (v6 : Int32), (∀ y8 : Int32, y8 = v6 + 1 → B15 v3 v4 v5 y8) → B52 v3 v4 v5 v6) →
  (P_X6_slotOf f x1 x2 (fun r9 => B15 r9 0 0 0))
def P_X4_silenceAtBeginning (f : sx_F) (x1 : Int32) (x2 : Int32) (Q : Int32 → Prop) : Prop :=
  ∀ (B12 : Int32 → Int32 → Int32 → Prop),
  (∀ (v3 : Int32) (v4 : Int32) (v5 : Int32), (vp_in v3 60 ∧ (((f 5 v3.toNatClampNeg) ≤ v5 → (vp_in x2 12 ∧ Q (f 2 x2.toNatClampNeg))) ∧ (¬ (f 5 v3.toNatClampNeg) ≤ v5 → (P_X4_pitchAt f v3 v5 (fun r2 => ((r2 ≤ 0 → (P_X4_lengthAt f v3 v5 (fun r5 => (∀ y7 : Int32, y7 = (v4 + r5) → (∀ y8 : Int32, y8 = v5 + 1 → B12 v3 y7 y8))))) ∧ (¬ r2 ≤ 0 → Q v4))))))) → B12 v3 v4 v5) →
  (P_X6_slotOf f x1 x2 (fun r9 => B12 r9 0 0))
def P_X4_silenceAround (f : sx_F) (x1 : Int32) (x2 : Int32) (Q : Int32 → Prop) : Prop :=
  ∀ (B7 : Int32 → Int32 → Prop),
  ∀ (B47 : Int32 → Prop),
  ∀ (B50 : Int32 → Int32 → Prop),
  (∀ (v3 : Int32) (v4 : Int32), ((v4 < 0 → B47 v3) ∧ (¬ v4 < 0 → (P_X4_silenceAtEnd f x1 v4 (fun r2 => (∀ y4 : Int32, y4 = (v3 + r2) → (vp_in v4 12 ∧ (((f 2 v4.toNatClampNeg) ≤ r2 → (∀ y6 : Int32, y6 = v4 + (-1) → B7 y4 y6)) ∧ (¬ (f 2 v4.toNatClampNeg) ≤ r2 → B47 y4)))))))) → B7 v3 v4) →
  (∀ (v3 : Int32), B50 v3 x2 → B47 v3) →
  (∀ (v3 : Int32) (v4 : Int32), (((f 1 0) ≤ v4 → Q v3) ∧ (¬ (f 1 0) ≤ v4 → (P_X4_silenceAtBeginning f x1 v4 (fun r8 => (∀ y10 : Int32, y10 = (v3 + r8) → (vp_in v4 12 ∧ (((f 2 v4.toNatClampNeg) ≤ r8 → (∀ y12 : Int32, y12 = v4 + 1 → B50 y10 y12)) ∧ (¬ (f 2 v4.toNatClampNeg) ≤ r8 → Q y10)))))))) → B50 v3 v4) →
  (∀ y13 : Int32, y13 = (x2 - 1) → B7 0 y13)
def P_X3_priceTurns (f : sx_F)  (Q : sx_F → Prop) : Prop :=
  ∀ (B22 : sx_F → Int32 → Prop),
  (∀ (f : sx_F) (v1 : Int32), (((f 8 3) ≤ v1 → Q f) ∧ (¬ (f 8 3) ≤ v1 → (vp_in v1 12 ∧ (P_X4_silenceAround f (f 8 2) (f 14 v1.toNatClampNeg) (fun r2 => (vp_in v1 13 ∧ ∀ g4 : sx_F, g4 = sx_u f 20 v1.toNatClampNeg (100 * (if 0 < (16 - r2) then (16 - r2) else 0)) → (∀ y5 : Int32, y5 = v1 + 1 → B22 g4 y5))))))) → B22 f v1) →
  (P_J7_fill_53178 f 20 13 0 (fun g6 => (((g6 8 2) = 5 → Q g6) ∧ (¬ (g6 8 2) = 5 → B22 g6 0))))
def P_X3_nextOnPage (f : sx_F) (x1 : Int32) (Q : Int32 → Prop) : Prop :=
  (((f 19 2) ≤ (x1 + 1) → Q 0) ∧ (¬ (f 19 2) ≤ (x1 + 1) → Q (x1 + 1)))
def P_X3_mayBeLine (f : sx_F) (x1 : Int32) (x2 : Int32) (Q : Int32 → Prop) : Prop :=
  ∀ (B23 : Prop),
  (Q 1 → B23 ) →
  (((x2 - x1) = 1 → B23) ∧ (¬ (x2 - x1) = 1 → (P_X0_leastOf f x1 x2 (fun r2 => (((f 19 1) < r2 → Q 0) ∧ (¬ (f 19 1) < r2 → B23))))))
def P_X3_badness (f : sx_F) (x1 : Int32) (x2 : Int32) (Q : Int32 → Prop) : Prop :=
  (P_X0_widthOf f x1 x2 (fun r1 => (∀ y3 : Int32, y3 = (r1 - (f 19 1)) → ((y3 ≤ 0 → ((x2 = (f 8 3) → Q 0) ∧ (¬ x2 = (f 8 3) → Q (y3 * y3)))) ∧ (¬ y3 ≤ 0 → Q (((2 * y3) * 2) * y3))))))
def P_X3_turnAhead (f : sx_F) (x1 : Int32) (x2 : Int32) (Q : Int32 → Prop) : Prop :=
  ((x2 = 0 → (vp_in x1 13 ∧ Q (f 20 x1.toNatClampNeg))) ∧ (¬ x2 = 0 → Q 0))
def P_X3_chooseLine (f : sx_F) (x1 : Int32) (x2 : Int32) (Q : sx_F → Prop) : Prop :=
  ∀ (B30 : sx_F → Int32 → Int32 → Prop),
  ∀ (B134 : sx_F → Int32 → Int32 → Int32 → Int32 → Prop),
  ∀ (B164 : sx_F → Int32 → Int32 → Prop),
  (∀ (f : sx_F) (v3 : Int32) (v4 : Int32), (((f 8 3) < v4 → Q f) ∧ (¬ (f 8 3) < v4 → (P_X3_mayBeLine f x1 v4 (fun r2 => ((r2 = 0 → Q f) ∧ (¬ r2 = 0 → (P_X3_badness f x1 v4 (fun r5 => (P_X3_turnAhead f v4 v3 (fun r7 => (vp_in v4 13 ∧ ∀ w9 : Nat, w9 = 22 + v4.toNatClampNeg → (vp_in v3 6 ∧ (∀ y11 : Int32, y11 = ((r5 + r7) + (f w9 v3.toNatClampNeg)) → (vp_in v4 13 ∧ ∀ w12 : Nat, w12 = 36 + v4.toNatClampNeg → (vp_in v3 6 ∧ (∀ y14 : Int32, y14 = (1 + (f w12 v3.toNatClampNeg)) → (vp_in x1 13 ∧ ∀ w15 : Nat, w15 = 22 + x1.toNatClampNeg → (vp_in x2 6 ∧ ((y11 < (f w15 x2.toNatClampNeg) → B134 f v3 v4 y11 y14) ∧ (¬ y11 < (f w15 x2.toNatClampNeg) → (vp_in x1 13 ∧ ∀ w18 : Nat, w18 = 22 + x1.toNatClampNeg → (vp_in x2 6 ∧ ((y11 = (f w18 x2.toNatClampNeg) → (vp_in x1 13 ∧ ∀ w21 : Nat, w21 = 36 + x1.toNatClampNeg → (vp_in x2 6 ∧ (((f w21 x2.toNatClampNeg) ≤ y14 → B164 f v3 v4) ∧ (¬ (f w21 x2.toNatClampNeg) ≤ y14 → B134 f v3 v4 y11 y14))))) ∧ (¬ y11 = (f w18 x2.toNatClampNeg) → B164 f v3 v4)))))))))))))))))))))))) → B30 f v3 v4) →
  (∀ (f : sx_F) (v3 : Int32) (v4 : Int32) (v5 : Int32) (v6 : Int32), (vp_in x1 13 ∧ ∀ w24 : Nat, w24 = 22 + x1.toNatClampNeg → (vp_in x2 6 ∧ ∀ g26 : sx_F, g26 = sx_u f w24 x2.toNatClampNeg v5 → (vp_in x1 13 ∧ ∀ w27 : Nat, w27 = 36 + x1.toNatClampNeg → (vp_in x2 6 ∧ ∀ g29 : sx_F, g29 = sx_u g26 w27 x2.toNatClampNeg v6 → (vp_in x1 13 ∧ ∀ w30 : Nat, w30 = 50 + x1.toNatClampNeg → (vp_in x2 6 ∧ ∀ g32 : sx_F, g32 = sx_u g29 w30 x2.toNatClampNeg v4 → B164 g32 v3 v4)))))) → B134 f v3 v4 v5 v6) →
  (∀ (f : sx_F) (v3 : Int32) (v4 : Int32), (∀ y33 : Int32, y33 = v4 + 1 → B30 f v3 y33) → B164 f v3 v4) →
  (P_X3_nextOnPage f x2 (fun r34 => (vp_in x1 13 ∧ ∀ w36 : Nat, w36 = 22 + x1.toNatClampNeg → (vp_in x2 6 ∧ ∀ g38 : sx_F, g38 = sx_u f w36 x2.toNatClampNeg 1000000000 → (vp_in x1 13 ∧ ∀ w39 : Nat, w39 = 36 + x1.toNatClampNeg → (vp_in x2 6 ∧ ∀ g41 : sx_F, g41 = sx_u g38 w39 x2.toNatClampNeg 0 → (∀ y42 : Int32, y42 = (x1 + 1) → B30 g41 r34 y42)))))))
def P_X3_setLines (f : sx_F)  (Q : sx_F → Prop) : Prop :=
  ∀ (B23 : sx_F → Int32 → Int32 → Int32 → Prop),
  ∀ (B51 : sx_F → Int32 → Int32 → Int32 → Int32 → Prop),
  (∀ (f : sx_F) (v1 : Int32) (v2 : Int32) (v3 : Int32), (((f 19 7) ≤ v3 → (vp_in (f 19 7) 13 ∧ ∀ g2 : sx_F, g2 = sx_u f 63 (f 19 7).toNatClampNeg v1 → Q g2)) ∧ (¬ (f 19 7) ≤ v3 → (vp_in v3 13 ∧ ∀ g3 : sx_F, g3 = sx_u f 63 v3.toNatClampNeg v1 → (vp_in v1 13 ∧ ∀ w4 : Nat, w4 = 50 + v1.toNatClampNeg → (vp_in v2 6 ∧ (∀ y6 : Int32, y6 = (g3 w4 v2.toNatClampNeg) → B51 g3 v2 v3 y6 v1)))))) → B23 f v1 v2 v3) →
  (∀ (f : sx_F) (v2 : Int32) (v3 : Int32) (v4 : Int32) (v5 : Int32), ((v4 ≤ v5 → (P_X3_nextOnPage f v2 (fun r8 => (P_X3_turnAhead f v4 r8 (fun r10 => (∀ g12 : sx_F, g12 = sx_u f 19 8 ((f 19 8) + r10) → (∀ y13 : Int32, y13 = v3 + 1 → B23 g12 v4 r8 y13))))))) ∧ (¬ v4 ≤ v5 → (vp_in v5 12 ∧ ∀ g14 : sx_F, g14 = sx_u f 64 v5.toNatClampNeg v3 → (∀ y15 : Int32, y15 = v5 + 1 → B51 g14 v2 v3 v4 y15)))) → B51 f v2 v3 v4 v5) →
  (vp_in 0 13 ∧ ∀ w16 : Nat, w16 = 36 + (0 : Int32).toNatClampNeg → (vp_in 0 6 ∧ (∀ g18 : sx_F, g18 = sx_u f 19 7 (f w16 (0 : Int32).toNatClampNeg) → (∀ g19 : sx_F, g19 = sx_u g18 19 8 0 → B23 g19 0 0 0))))
def P_X3_breakLines (f : sx_F)  (Q : sx_F → Prop) : Prop :=
  ∀ (B6 : sx_F → Int32 → Prop),
  ∀ (B60 : sx_F → Int32 → Prop),
  ∀ (B66 : sx_F → Int32 → Int32 → Prop),
  (∀ (f : sx_F) (v1 : Int32), (((f 19 2) ≤ v1 → (∀ y2 : Int32, y2 = ((f 8 3) - 1) → B60 f y2)) ∧ (¬ (f 19 2) ≤ v1 → (vp_in (f 8 3) 13 ∧ ∀ w3 : Nat, w3 = 22 + (f 8 3).toNatClampNeg → (vp_in v1 6 ∧ ∀ g5 : sx_F, g5 = sx_u f w3 v1.toNatClampNeg 0 → (vp_in (g5 8 3) 13 ∧ ∀ w6 : Nat, w6 = 36 + (g5 8 3).toNatClampNeg → (vp_in v1 6 ∧ ∀ g8 : sx_F, g8 = sx_u g5 w6 v1.toNatClampNeg 0 → (∀ y9 : Int32, y9 = v1 + 1 → B6 g8 y9))))))) → B6 f v1) →
  (∀ (f : sx_F) (v1 : Int32), ((v1 < 0 → (P_X3_setLines f (fun g11 => Q g11))) ∧ (¬ v1 < 0 → B66 f v1 0)) → B60 f v1) →
  (∀ (f : sx_F) (v1 : Int32) (v2 : Int32), (((f 19 2) ≤ v2 → (∀ y13 : Int32, y13 = v1 + (-1) → B60 f y13)) ∧ (¬ (f 19 2) ≤ v2 → (P_X3_chooseLine f v1 v2 (fun g14 => (∀ y15 : Int32, y15 = v2 + 1 → B66 g14 v1 y15))))) → B66 f v1 v2) →
  (P_X3_priceTurns f (fun g16 => B6 g16 0))
def P_X3_leastCost (f : sx_F)  (Q : Int32 → Prop) : Prop :=
  (vp_in 0 13 ∧ ∀ w1 : Nat, w1 = 22 + (0 : Int32).toNatClampNeg → (vp_in 0 6 ∧ Q (f w1 (0 : Int32).toNatClampNeg)))
def P_X3_leastOfAllWays : Nat → sx_F → Int32 → Int32 → Int32 → (Int32 → Prop) → Prop
  | 0, _, _, _, _, _ => False
  | n + 1, f, x1, x2, x3, Q =>
  ∀ (B35 : Int32 → Int32 → Int32 → Prop),
  ∀ (B96 : Int32 → Int32 → Int32 → Prop),
  (∀ (v4 : Int32) (v5 : Int32) (v6 : Int32), (((f 8 3) < v6 → Q v5) ∧ (¬ (f 8 3) < v6 → (P_X3_mayBeLine f x1 v6 (fun r2 => ((r2 = 0 → B96 v4 v5 v6) ∧ (¬ r2 = 0 → (P_X3_badness f x1 v6 (fun r5 => (P_X3_turnAhead f v6 v4 (fun r7 => (∀ y9 : Int32, y9 = (r5 + r7) → (P_X3_leastOfAllWays n f v6 v4 (x3 + 1) (fun r10 => (∀ y12 : Int32, y12 = (if (y9 + r10) < v5 then (y9 + r10) else v5) → B96 v4 y12 v6)))))))))))))) → B35 v4 v5 v6) →
  (∀ (v4 : Int32) (v5 : Int32) (v6 : Int32), (∀ y13 : Int32, y13 = v6 + 1 → B35 v4 v5 y13) → B96 v4 v5 v6) →
  (((f 8 3) ≤ x1 → Q 0) ∧ (¬ (f 8 3) ≤ x1 → ((x3 < 12 → (P_X3_nextOnPage f x2 (fun r16 => (∀ y18 : Int32, y18 = (x1 + 1) → B35 r16 1000000000 y18)))) ∧ (¬ x3 < 12 → Q 0))))
def P_X3_leastByTrying (f : sx_F)  (Q : Int32 → sx_F → Prop) : Prop :=
  (P_X3_priceTurns f (fun g1 => (P_X3_leastOfAllWays 14 g1 0 0 0 (fun r2 => Q r2 g1))))
def P_X3_shrunkAhead (f : sx_F) (x1 : Int32) (x2 : Int32) (x3 : Int32) (x4 : Int32) (Q : Int32 → Prop) : Prop :=
  (P_X0_widthOf f x1 x2 (fun r1 => (P_X0_leastOf f x1 x2 (fun r3 => (∀ y5 : Int32, y5 = (r1 - r3) → ((y5 ≤ 0 → Q 0) ∧ (¬ y5 ≤ 0 → (¬ y5 = 0 ∧ Q (((if y5 < x3 then y5 else x3) * x4) / y5)))))))))
def P_X3_stretchedAhead (f : sx_F) (x1 : Int32) (x2 : Int32) (x3 : Int32) (x4 : Int32) (Q : Int32 → Prop) : Prop :=
  (vp_in x2 13 ∧ (vp_in x1 13 ∧ (∀ y1 : Int32, y1 = ((f 17 x2.toNatClampNeg) - (f 17 x1.toNatClampNeg)) → ((y1 ≤ 0 → Q 0) ∧ (¬ y1 ≤ 0 → (¬ y1 = 0 ∧ Q ((x3 * x4) / y1)))))))
def P_X3_springAt (f : sx_F) (x1 : Int32) (x2 : Int32) (Q : Int32 → Prop) : Prop :=
  (vp_in x1 12 ∧ (∀ y1 : Int32, y1 = (f 64 x1.toNatClampNeg) → (vp_in y1 13 ∧ (∀ y2 : Int32, y2 = (f 63 y1.toNatClampNeg) → (vp_in (y1 + 1) 13 ∧ (∀ y3 : Int32, y3 = (f 63 (y1 + 1).toNatClampNeg) → (vp_in x1 13 ∧ (vp_in y2 13 ∧ (vp_in x2 33 ∧ (∀ y4 : Int32, y4 = (((f 17 x1.toNatClampNeg) - (f 17 y2.toNatClampNeg)) + (f 11 x2.toNatClampNeg)) → (vp_in x1 13 ∧ (vp_in y2 13 ∧ (vp_in x2 33 ∧ (∀ y5 : Int32, y5 = (((f 18 x1.toNatClampNeg) - (f 18 y2.toNatClampNeg)) + (f 12 x2.toNatClampNeg)) → (∀ y6 : Int32, y6 = (((8 * (x1 - y2)) + 4) + y4) → (P_X0_widthOf f y2 y3 (fun r7 => (∀ y9 : Int32, y9 = (r7 - (f 19 1)) → ((y9 ≤ 0 → ((y3 = (f 8 3) → Q y6) ∧ (¬ y3 = (f 8 3) → (P_X3_stretchedAhead f y2 y3 (-y9) y4 (fun r12 => Q (y6 + r12)))))) ∧ (¬ y9 ≤ 0 → (P_X3_shrunkAhead f y2 y3 y9 (y4 - y5) (fun r14 => Q (y6 - r14)))))))))))))))))))))))
def P_X4_addBar (f : sx_F) (x1 : Int32) (Q : Int32 → sx_F → Prop) : Prop :=
  (vp_in (f 1 0) 12 ∧ ∀ g1 : sx_F, g1 = sx_u f 2 (f 1 0).toNatClampNeg x1 → (vp_in (g1 1 0) 13 ∧ (vp_in ((g1 1 0) + 1) 13 ∧ ∀ g2 : sx_F, g2 = sx_u g1 3 ((g1 1 0) + 1).toNatClampNeg ((g1 3 (g1 1 0).toNatClampNeg) + x1) → (∀ g3 : sx_F, g3 = sx_u g2 1 0 ((g2 1 0) + 1) → Q ((g3 1 0) - 1) g3))))
def P_X4_addNote (f : sx_F) (x1 : Int32) (x2 : Int32) (x3 : Int32) (Q : Int32 → sx_F → Prop) : Prop :=
  (vp_in x1 60 ∧ (∀ y1 : Int32, y1 = ((x1 * 8) + (f 5 x1.toNatClampNeg)) → (vp_in y1 480 ∧ ∀ g2 : sx_F, g2 = sx_u f 6 y1.toNatClampNeg x2 → (vp_in y1 480 ∧ ∀ g3 : sx_F, g3 = sx_u g2 7 y1.toNatClampNeg x3 → (vp_in x1 60 ∧ (vp_in x1 60 ∧ ∀ g4 : sx_F, g4 = sx_u g3 5 x1.toNatClampNeg ((g3 5 x1.toNatClampNeg) + 1) → (vp_in x1 60 ∧ (vp_in x1 60 ∧ ∀ g5 : sx_F, g5 = sx_u g4 4 x1.toNatClampNeg ((g4 4 x1.toNatClampNeg) + 1) → (vp_in x1 60 ∧ Q (g5 5 x1.toNatClampNeg) g5)))))))))
def P_X4_changePitch (f : sx_F) (x1 : Int32) (x2 : Int32) (x3 : Int32) (Q : Int32 → sx_F → Prop) : Prop :=
  (∀ y1 : Int32, y1 = ((x1 * 8) + x2) → (vp_in y1 480 ∧ (∀ y2 : Int32, y2 = (f 7 y1.toNatClampNeg) → ((y2 = x3 → Q y2 f) ∧ (¬ y2 = x3 → (vp_in y1 480 ∧ ∀ g4 : sx_F, g4 = sx_u f 7 y1.toNatClampNeg x3 → (vp_in x1 60 ∧ (vp_in x1 60 ∧ ∀ g5 : sx_F, g5 = sx_u g4 4 x1.toNatClampNeg ((g4 4 x1.toNatClampNeg) + 1) → Q y2 g5))))))))
def P_X4_takeNotes (f : sx_F) (x1 : Int32) (Q : Int32 → sx_F → Prop) : Prop :=
  (vp_in x1 60 ∧ (∀ y1 : Int32, y1 = (f 5 x1.toNatClampNeg) → ((y1 ≤ 0 → Q y1 f) ∧ (¬ y1 ≤ 0 → (vp_in x1 60 ∧ ∀ g3 : sx_F, g3 = sx_u f 5 x1.toNatClampNeg 0 → (vp_in x1 60 ∧ (vp_in x1 60 ∧ ∀ g4 : sx_F, g4 = sx_u g3 4 x1.toNatClampNeg ((g3 4 x1.toNatClampNeg) + 1) → Q y1 g4)))))))
def P_X4_filled (f : sx_F) (x1 : Int32) (Q : Int32 → Prop) : Prop :=
  ∀ (B4 : Int32 → Int32 → Prop),
  (∀ (v2 : Int32) (v3 : Int32), (vp_in x1 60 ∧ (((f 5 x1.toNatClampNeg) ≤ v3 → Q v2) ∧ (¬ (f 5 x1.toNatClampNeg) ≤ v3 → (P_X4_lengthAt f x1 v3 (fun r2 => (∀ y4 : Int32, y4 = (v2 + r2) → (∀ y5 : Int32, y5 = v3 + 1 → B4 y4 y5))))))) → B4 v2 v3) →
  B4 0 0
def P_X4_countTime (f : sx_F) (x1 : Int32) (Q : Int32 → Prop) : Prop :=
  ∀ (B4 : Int32 → Int32 → Prop),
  (∀ (v2 : Int32) (v3 : Int32), ((x1 ≤ v3 → Q v2) ∧ (¬ x1 ≤ v3 → (vp_in v3 12 ∧ (∀ y2 : Int32, y2 = (v2 + (f 2 v3.toNatClampNeg)) → (∀ y3 : Int32, y3 = v3 + 1 → B4 y2 y3))))) → B4 v2 v3) →
  B4 0 0
def P_X6_needValue (f : sx_F) (x0 : Int32) (x1 : Int32) (x2 : Int32) (Q : Prop) (X : String → Prop) : Prop :=
  ∀ (B10 : Prop),
  (X "java/lang/IllegalArgumentException" → B10 ) →
  ((x0 < x1 → B10) ∧ (¬ x0 < x1 → ((x0 ≤ x2 → Q) ∧ (¬ x0 ≤ x2 → B10))))
def P_X6_bar (f : sx_F) (x1 : Int32) (Q : Int32 → sx_F → Prop) (X : String → sx_F → Prop) : Prop :=
  (P_X6_needValue f x1 1 32 ((((f 1 0) < 12 → (P_X4_addBar f x1 (fun r4 g3 => Q r4 g3))) ∧ (¬ (f 1 0) < 12 → X "java/lang/IllegalStateException" f))) (fun E => X E f))
def P_X6_needIndex (f : sx_F) (x0 : Int32) (x1 : Int32) (Q : Prop) (X : String → Prop) : Prop :=
  ∀ (B9 : Prop),
  (X "java/lang/IndexOutOfBoundsException" → B9 ) →
  ((x0 < 0 → B9) ∧ (¬ x0 < 0 → ((x0 < x1 → Q) ∧ (¬ x0 < x1 → B9))))
def P_X6_needSlot (f : sx_F) (x1 : Int32) (x2 : Int32) (Q : Int32 → Prop) (X : String → Prop) : Prop :=
  (P_X6_needIndex f x1 5 ((P_X6_needIndex f x2 (f 1 0) ((P_X6_slotOf f x1 x2 (fun r3 => Q r3))) X)) X)
def P_X6_note (f : sx_F) (x1 : Int32) (x2 : Int32) (x3 : Int32) (x4 : Int32) (Q : Int32 → sx_F → Prop) (X : String → sx_F → Prop) : Prop :=
  (P_X6_needSlot f x1 x2 (fun r1 => (P_X6_needValue f x3 1 32 ((P_X6_needValue f x4 0 60 ((vp_in r1 60 ∧ (((f 5 r1.toNatClampNeg) < 8 → (P_X4_filled f r1 (fun r6 => (vp_in x2 12 ∧ (((r6 + x3) ≤ (f 2 x2.toNatClampNeg) → (P_X4_addNote f r1 x3 x4 (fun r10 g9 => Q r10 g9))) ∧ (¬ (r6 + x3) ≤ (f 2 x2.toNatClampNeg) → X "java/lang/IllegalStateException" f)))))) ∧ (¬ (f 5 r1.toNatClampNeg) < 8 → X "java/lang/IllegalStateException" f)))) (fun E => X E f))) (fun E => X E f))) (fun E => X E f))
def P_X6_mend (f : sx_F) (x1 : Int32) (x2 : Int32) (x3 : Int32) (x4 : Int32) (Q : Int32 → sx_F → Prop) (X : String → sx_F → Prop) : Prop :=
  (P_X6_needSlot f x1 x2 (fun r1 => (vp_in r1 60 ∧ (P_X6_needIndex f x3 (f 5 r1.toNatClampNeg) ((P_X6_needValue f x4 0 60 ((P_X4_changePitch f r1 x3 x4 (fun r6 g5 => Q r6 g5))) (fun E => X E f))) (fun E => X E f)))) (fun E => X E f))
def P_X6_empty (f : sx_F) (x1 : Int32) (x2 : Int32) (Q : Int32 → sx_F → Prop) (X : String → sx_F → Prop) : Prop :=
  (P_X6_needSlot f x1 x2 (fun r1 => (P_X4_takeNotes f r1 (fun r4 g3 => Q r4 g3))) (fun E => X E f))
def P_X6_setPaper (f : sx_F) (x1 : Int32) (x2 : Int32) (Q : Int32 → sx_F → Prop) (X : String → sx_F → Prop) : Prop :=
  (P_X6_needValue f x1 80 500 ((P_X6_needValue f x2 1 6 ((∀ y3 : Int32, y3 = (f 19 1) → (∀ g4 : sx_F, g4 = sx_u f 19 1 x1 → (∀ g5 : sx_F, g5 = sx_u g4 19 2 x2 → Q y3 g5)))) (fun E => X E f))) (fun E => X E f))
def P_X6_copy (f : sx_F) (x1 : Int32) (Q : Int32 → sx_F → Prop) (X : String → sx_F → Prop) : Prop :=
  (P_X6_needIndex f x1 5 ((((f 0 5) < 16 → (vp_in (f 0 5) 16 ∧ ∀ w3 : Nat, w3 = 66 + 2 * (f 0 5).toNatClampNeg → (∀ g5 : sx_F, g5 = sx_u f w3 1 x1 → (∀ g6 : sx_F, g6 = sx_u g5 0 5 ((g5 0 5) + 1) → Q ((g6 0 5) - 1) g6)))) ∧ (¬ (f 0 5) < 16 → X "java/lang/IllegalStateException" f))) (fun E => X E f))
def P_X6_deskHasPart (f : sx_F) (x1 : Int32) (x2 : Int32) (Q : Int32 → Prop) : Prop :=
  ∀ (B2 : Int32 → Prop),
  ∀ (B38 : Int32 → Prop),
  (∀ (v3 : Int32), (((f 0 5) ≤ v3 → Q 0) ∧ (¬ (f 0 5) ≤ v3 → (vp_in v3 16 ∧ ∀ w2 : Nat, w2 = 66 + 2 * v3.toNatClampNeg → (((f w2 2) = x1 → (vp_in v3 16 ∧ ∀ w5 : Nat, w5 = 66 + 2 * v3.toNatClampNeg → (((f w5 1) = x2 → Q 1) ∧ (¬ (f w5 1) = x2 → B38 v3)))) ∧ (¬ (f w2 2) = x1 → B38 v3))))) → B2 v3) →
  (∀ (v3 : Int32), (∀ y8 : Int32, y8 = v3 + 1 → B2 y8) → B38 v3) →
  B2 0
def P_X6_copiesOut (f : sx_F)  (Q : Int32 → Prop) : Prop :=
  ∀ (B4 : Int32 → Int32 → Prop),
  ∀ (B27 : Int32 → Int32 → Prop),
  (∀ (v1 : Int32) (v2 : Int32), (((f 0 5) ≤ v2 → Q v1) ∧ (¬ (f 0 5) ≤ v2 → (vp_in v2 16 ∧ ∀ w2 : Nat, w2 = 66 + 2 * v2.toNatClampNeg → (P_X1_isOut f w2 (fun r4 => ((r4 = 0 → B27 v1 v2) ∧ (¬ r4 = 0 → (∀ y7 : Int32, y7 = v1 + 1 → B27 y7 v2)))))))) → B4 v1 v2) →
  (∀ (v1 : Int32) (v2 : Int32), (∀ y8 : Int32, y8 = v2 + 1 → B4 v1 y8) → B27 v1 v2) →
  B4 0 0
def P_X6_lend (f : sx_F) (x1 : Int32) (x2 : Int32) (Q : Int32 → sx_F → Prop) (X : String → sx_F → Prop) : Prop :=
  (P_X6_needIndex f x1 (f 0 5) ((P_X6_needIndex f x2 6 ((vp_in x1 16 ∧ ∀ w3 : Nat, w3 = 66 + 2 * x1.toNatClampNeg → (P_X1_isOut f w3 (fun r5 => ((r5 = 0 → (P_X6_deskHasPart f x2 (f w3 1) (fun r8 => ((r8 = 0 → (∀ g11 : sx_F, g11 = sx_u f w3 2 x2 → (P_X1_takeVersions g11 w3 (fun g12 => (P_X6_copiesOut g12 (fun r13 => Q r13 g12)))))) ∧ (¬ r8 = 0 → X "java/lang/IllegalStateException" f))))) ∧ (¬ r5 = 0 → X "java/lang/IllegalStateException" f)))))) (fun E => X E f))) (fun E => X E f))
def P_X6_needCopyOut (f : sx_F) (x1 : Int32) (Q : Nat → Prop) (X : String → Prop) : Prop :=
  (P_X6_needIndex f x1 (f 0 5) ((vp_in x1 16 ∧ ∀ w2 : Nat, w2 = 66 + 2 * x1.toNatClampNeg → (P_X1_isOut f w2 (fun r4 => ((r4 = 0 → X "java/lang/IllegalStateException") ∧ (¬ r4 = 0 → Q w2)))))) X)
def P_X6_giveBack (f : sx_F) (x1 : Int32) (Q : Int32 → sx_F → Prop) (X : String → sx_F → Prop) : Prop :=
  (P_X6_needCopyOut f x1 (fun r1 => (P_X1_countDebts f r1 (fun r3 => (∀ g5 : sx_F, g5 = sx_u f r1 2 (-1) → Q r3 g5)))) (fun E => X E f))
def P_X6_paste (f : sx_F) (x1 : Int32) (Q : Int32 → sx_F → Prop) (X : String → sx_F → Prop) : Prop :=
  (P_X6_needCopyOut f x1 (fun r1 => (P_X1_countDebts f r1 (fun r3 => (P_X1_takeVersions f r1 (fun g5 => Q r3 g5))))) (fun E => X E f))
def P_X6_mark (f : sx_F) (x1 : Int32) (x2 : Int32) (x3 : Int32) (Q : Int32 → sx_F → Prop) (X : String → sx_F → Prop) : Prop :=
  (P_X6_needIndex f x1 (f 0 5) ((P_X6_needIndex f x2 (f 1 0) ((P_X6_needValue f x3 0 9 ((P_X6_needCopyOut f x1 (fun r4 => (P_X1_lacks f r4 x2 (fun r6 => ((r6 = 0 → (P_X6_slotOf f (f r4 1) x2 (fun r9 => (vp_in (f r4 2) 6 ∧ ∀ w11 : Nat, w11 = 99 + 5 * (f r4 2).toNatClampNeg → (P_X1_versionOf f r4 x2 (fun r13 => (P_X2_changeMark f w11 r9 x3 r13 (fun r16 g15 => Q r16 g15)))))))) ∧ (¬ r6 = 0 → X "java/lang/IllegalStateException" f))))) (fun E => X E f))) (fun E => X E f))) (fun E => X E f))) (fun E => X E f))
def P_X6_bow (f : sx_F) (x1 : Int32) (x2 : Int32) (x3 : Int32) (x4 : Int32) (Q : Int32 → sx_F → Prop) (X : String → sx_F → Prop) : Prop :=
  (P_X6_needIndex f x1 (f 0 5) ((vp_in x1 16 ∧ ∀ w2 : Nat, w2 = 66 + 2 * x1.toNatClampNeg → (P_X6_needSlot f (f w2 1) x2 (fun r4 => (vp_in r4 60 ∧ (P_X6_needIndex f x3 (f 5 r4.toNatClampNeg) ((P_X6_needValue f x4 0 2 ((P_X6_needCopyOut f x1 (fun r8 => (P_X1_owes f r8 x2 (fun r10 => ((r10 = 0 → (vp_in (f r8 2) 6 ∧ ∀ w13 : Nat, w13 = 99 + 5 * (f r8 2).toNatClampNeg → (vp_in r4 60 ∧ (P_X2_changeBowing f w13 r4 x3 x4 (f 4 r4.toNatClampNeg) (fun r16 g15 => Q r16 g15))))) ∧ (¬ r10 = 0 → X "java/lang/IllegalStateException" f))))) (fun E => X E f))) (fun E => X E f))) (fun E => X E f)))) (fun E => X E f)))) (fun E => X E f))
def P_X6_anyCopyOwes (f : sx_F)  (Q : Int32 → Prop) : Prop :=
  ∀ (B2 : Int32 → Prop),
  (∀ (v1 : Int32), (((f 0 5) ≤ v1 → Q 0) ∧ (¬ (f 0 5) ≤ v1 → (vp_in v1 16 ∧ ∀ w2 : Nat, w2 = 66 + 2 * v1.toNatClampNeg → (P_X1_countDebts f w2 (fun r4 => ((r4 ≤ 0 → (∀ y7 : Int32, y7 = v1 + 1 → B2 y7)) ∧ (¬ r4 ≤ 0 → Q 1))))))) → B2 v1) →
  B2 0
def P_X6_play (f : sx_F)  (Q : Int32 → sx_F → Prop) (X : String → sx_F → Prop) : Prop :=
  (P_X6_copiesOut f (fun r1 => ((r1 = 0 → X "java/lang/IllegalStateException" f) ∧ (¬ r1 = 0 → (P_X6_anyCopyOwes f (fun r4 => ((r4 = 0 → (∀ g7 : sx_F, g7 = sx_u f 0 6 ((f 0 6) + 1) → Q r1 g7)) ∧ (¬ r4 = 0 → X "java/lang/IllegalStateException" f))))))))
def P_X6_bars (f : sx_F)  (Q : Int32 → Prop) : Prop :=
  Q (f 1 0)
def P_X6_notes (f : sx_F) (x1 : Int32) (x2 : Int32) (Q : Int32 → Prop) (X : String → Prop) : Prop :=
  (P_X6_needSlot f x1 x2 (fun r1 => (vp_in r1 60 ∧ Q (f 5 r1.toNatClampNeg))) X)
def P_X6_noteAt (f : sx_F) (x1 : Int32) (x2 : Int32) (x3 : Int32) (Q : Int32 → Prop) (X : String → Prop) : Prop :=
  (P_X6_needSlot f x1 x2 (fun r1 => (vp_in r1 60 ∧ (P_X6_needIndex f x3 (f 5 r1.toNatClampNeg) ((P_X4_lengthAt f r1 x3 (fun r4 => (P_X4_pitchAt f r1 x3 (fun r6 => Q ((100 * r4) + r6)))))) X))) X)
def P_X6_version (f : sx_F) (x1 : Int32) (x2 : Int32) (Q : Int32 → Prop) (X : String → Prop) : Prop :=
  (P_X6_needSlot f x1 x2 (fun r1 => (vp_in r1 60 ∧ Q (f 4 r1.toNatClampNeg))) X)
def P_X6_time (f : sx_F) (x1 : Int32) (Q : Int32 → Prop) (X : String → Prop) : Prop :=
  (P_X6_needIndex f x1 ((f 1 0) + 1) ((vp_in x1 13 ∧ Q (f 3 x1.toNatClampNeg))) X)
def P_X6_timeByBars (f : sx_F) (x1 : Int32) (Q : Int32 → Prop) (X : String → Prop) : Prop :=
  (P_X6_needIndex f x1 ((f 1 0) + 1) ((P_X4_countTime f x1 (fun r2 => Q r2))) X)
def P_X6_openBook (f : sx_F) (x1 : Int32) (Q : sx_F → Prop) (X : String → sx_F → Prop) : Prop :=
  (P_X6_needIndex f x1 6 ((P_X0_gather f x1 (fun g2 => Q g2))) (fun E => X E f))
def P_X6_items (f : sx_F) (x1 : Int32) (Q : Int32 → sx_F → Prop) (X : String → sx_F → Prop) : Prop :=
  (P_X6_openBook f x1 (fun g1 => Q (g1 8 3) g1) X)
def P_X6_itemOf (f : sx_F) (x1 : Int32) (x2 : Int32) (Q : Int32 → sx_F → Prop) (X : String → sx_F → Prop) : Prop :=
  (P_X6_openBook f x1 (fun g1 => (P_X6_needIndex g1 x2 (g1 1 0) ((vp_in x2 12 ∧ Q (g1 15 x2.toNatClampNeg) g1)) (fun E => X E g1))) X)
def P_X6_cue (f : sx_F) (x1 : Int32) (x2 : Int32) (Q : Int32 → Prop) (X : String → Prop) : Prop :=
  (P_X6_needSlot f x1 x2 (fun r1 => (P_X4_cuePlayer f x1 x2 (fun r3 => Q r3))) X)
def P_X6_width (f : sx_F) (x1 : Int32) (x2 : Int32) (Q : Int32 → sx_F → Prop) (X : String → sx_F → Prop) : Prop :=
  (P_X6_openBook f x1 (fun g1 => (P_X6_needIndex g1 x2 (g1 8 3) ((P_X0_widthOf g1 x2 (x2 + 1) (fun r3 => Q r3 g1))) (fun E => X E g1))) X)
def P_X6_breakBook (f : sx_F) (x1 : Int32) (Q : sx_F → Prop) (X : String → sx_F → Prop) : Prop :=
  (P_X6_needIndex f x1 6 ((P_X0_gather f x1 (fun g2 => (P_X3_breakLines g2 (fun g3 => Q g3))))) (fun E => X E f))
def P_X6_lines (f : sx_F) (x1 : Int32) (Q : Int32 → sx_F → Prop) (X : String → sx_F → Prop) : Prop :=
  (P_X6_breakBook f x1 (fun g1 => Q (g1 19 7) g1) X)
def P_X6_lineOf (f : sx_F) (x1 : Int32) (x2 : Int32) (Q : Int32 → sx_F → Prop) (X : String → sx_F → Prop) : Prop :=
  (P_X6_breakBook f x1 (fun g1 => (P_X6_needIndex g1 x2 (g1 1 0) ((vp_in x2 12 ∧ (vp_in (g1 15 x2.toNatClampNeg) 12 ∧ Q (g1 64 (g1 15 x2.toNatClampNeg).toNatClampNeg) g1))) (fun E => X E g1))) X)
def P_X6_cost (f : sx_F) (x1 : Int32) (Q : Int32 → sx_F → Prop) (X : String → sx_F → Prop) : Prop :=
  (P_X6_breakBook f x1 (fun g1 => (P_X3_leastCost g1 (fun r2 => Q r2 g1))) X)
def P_X6_costByAll (f : sx_F) (x1 : Int32) (Q : Int32 → sx_F → Prop) (X : String → sx_F → Prop) : Prop :=
  (P_X6_openBook f x1 (fun g1 => (P_X3_leastByTrying g1 (fun r3 g2 => Q r3 g2))) X)
def P_X6_turns (f : sx_F) (x1 : Int32) (Q : Int32 → sx_F → Prop) (X : String → sx_F → Prop) : Prop :=
  (P_X6_breakBook f x1 (fun g1 => Q (g1 19 8) g1) X)
def P_X6_place (f : sx_F) (x1 : Int32) (x2 : Int32) (x3 : Int32) (Q : Int32 → sx_F → Prop) (X : String → sx_F → Prop) : Prop :=
  (P_X6_breakBook f x1 (fun g1 => (P_X6_needIndex g1 x2 (g1 1 0) ((P_X0_drawSpring g1 x2 x3 (fun r4 g3 => ((r4 = (-1) → X "java/lang/IndexOutOfBoundsException" g3) ∧ (¬ r4 = (-1) → (vp_in x2 12 ∧ (P_X3_springAt g3 (g3 15 x2.toNatClampNeg) r4 (fun r6 => Q r6 g3)))))))) (fun E => X E g1))) X)
def P_X6_copies (f : sx_F)  (Q : Int32 → Prop) : Prop :=
  Q (f 0 5)
def P_X6_deskOf (f : sx_F) (x1 : Int32) (Q : Int32 → Prop) (X : String → Prop) : Prop :=
  (P_X6_needIndex f x1 (f 0 5) ((vp_in x1 16 ∧ ∀ w2 : Nat, w2 = 66 + 2 * x1.toNatClampNeg → Q (f w2 2))) X)
def P_X6_has (f : sx_F) (x1 : Int32) (x2 : Int32) (Q : Int32 → Prop) (X : String → Prop) : Prop :=
  (P_X6_needIndex f x1 (f 0 5) ((P_X6_needIndex f x2 (f 1 0) ((vp_in x1 16 ∧ ∀ w3 : Nat, w3 = 66 + 2 * x1.toNatClampNeg → (P_X1_versionOf f w3 x2 (fun r5 => Q r5)))) X)) X)
def P_X6_owed (f : sx_F) (x1 : Int32) (Q : Int32 → Prop) (X : String → Prop) : Prop :=
  (P_X6_needIndex f x1 (f 0 5) ((vp_in x1 16 ∧ ∀ w2 : Nat, w2 = 66 + 2 * x1.toNatClampNeg → (P_X1_countDebts f w2 (fun r4 => Q r4)))) X)
def P_X6_markOf (f : sx_F) (x1 : Int32) (x2 : Int32) (x3 : Int32) (Q : Int32 → Prop) (X : String → Prop) : Prop :=
  (P_X6_needIndex f x1 6 ((vp_in x1 6 ∧ ∀ w2 : Nat, w2 = 99 + 5 * x1.toNatClampNeg → (P_X6_needSlot f x2 x3 (fun r4 => (vp_in r4 60 ∧ Q (f (w2 + 1) r4.toNatClampNeg))) X))) X)
def P_X6_oldMarks (f : sx_F) (x1 : Int32) (Q : Int32 → Prop) (X : String → Prop) : Prop :=
  (P_X6_needIndex f x1 6 ((vp_in x1 6 ∧ ∀ w2 : Nat, w2 = 99 + 5 * x1.toNatClampNeg → (P_X2_countOldMarks f w2 (fun r4 => Q r4)))) X)
def P_X6_clashesAt (f : sx_F) (o1 : Nat) (o2 : Nat) (x3 : Int32) (Q : Int32 → Prop) : Prop :=
  ∀ (B6 : Int32 → Int32 → Prop),
  ∀ (B41 : Int32 → Int32 → Int32 → Int32 → Int32 → Prop),
  ∀ (B100 : Int32 → Int32 → Int32 → Int32 → Int32 → Prop),
  (∀ (v4 : Int32) (v5 : Int32), (((f 1 0) ≤ v5 → Q v4) ∧ (¬ (f 1 0) ≤ v5 → (P_X6_slotOf f x3 v5 (fun r2 => (vp_in r2 60 ∧ (∀ y4 : Int32, y4 = (f 4 r2.toNatClampNeg) → B41 v4 v5 r2 y4 0)))))) → B6 v4 v5) →
  (∀ (v4 : Int32) (v5 : Int32) (v6 : Int32) (v7 : Int32) (v8 : Int32), (vp_in v6 60 ∧ (((f 5 v6.toNatClampNeg) ≤ v8 → (∀ y6 : Int32, y6 = v5 + 1 → B6 v4 y6)) ∧ (¬ (f 5 v6.toNatClampNeg) ≤ v8 → (P_X2_bowingAt f o1 v6 v8 v7 (fun r7 => (P_X2_bowingAt f o2 v6 v8 v7 (fun r9 => ((r7 = 0 → B100 v4 v5 v6 v7 v8) ∧ (¬ r7 = 0 → ((r9 = 0 → B100 v4 v5 v6 v7 v8) ∧ (¬ r9 = 0 → ((r7 = r9 → B100 v4 v5 v6 v7 v8) ∧ (¬ r7 = r9 → (∀ y14 : Int32, y14 = v4 + 1 → B100 y14 v5 v6 v7 v8)))))))))))))) → B41 v4 v5 v6 v7 v8) →
  (∀ (v4 : Int32) (v5 : Int32) (v6 : Int32) (v7 : Int32) (v8 : Int32), (∀ y15 : Int32, y15 = v8 + 1 → B41 v4 v5 v6 v7 y15) → B100 v4 v5 v6 v7 v8) →
  B6 0 0
def P_X6_clashes (f : sx_F) (x1 : Int32) (Q : Int32 → Prop) (X : String → Prop) : Prop :=
  ∀ (B9 : Int32 → Int32 → Prop),
  (∀ (v2 : Int32) (v3 : Int32), ((3 ≤ v3 → Q v2) ∧ (¬ 3 ≤ v3 → (vp_in (2 * v3) 6 ∧ ∀ w2 : Nat, w2 = 99 + 5 * (2 * v3).toNatClampNeg → (vp_in ((2 * v3) + 1) 6 ∧ ∀ w4 : Nat, w4 = 99 + 5 * ((2 * v3) + 1).toNatClampNeg → (P_X6_clashesAt f w2 w4 x1 (fun r6 => (∀ y8 : Int32, y8 = (v2 + r6) → (∀ y9 : Int32, y9 = v3 + 1 → B9 y8 y9)))))))) → B9 v2 v3) →
  (P_X6_needIndex f x1 5 (B9 0 0) X)
def P_X6_concerts (f : sx_F)  (Q : Int32 → Prop) : Prop :=
  Q (f 0 6)
end
section
def P_X7_thrown (f : sx_F)  (Q : Int32 → Prop) : Prop :=
  Q (f 0 33)
def P_X7_in (f : sx_F) (x0 : Int32) (x1 : Int32) (x2 : Int32) (Q : Int32 → Prop) : Prop :=
  ((x0 < x1 → Q 0) ∧ (¬ x0 < x1 → ((x2 < x0 → Q 0) ∧ (¬ x2 < x0 → Q 1))))
def P_X7_goes (f : sx_F) (x1 : Int32) (x2 : Int32) (x3 : Int32) (Q : Int32 → sx_F → Prop) : Prop :=
  ∀ (B26 : sx_F → Int32 → Prop),
  (∀ (f : sx_F) (s1 : Int32), (∀ g1 : sx_F, g1 = sx_u f 0 33 s1 → (((g1 0 33) = 0 → Q 1 g1) ∧ (¬ (g1 0 33) = 0 → Q 0 g1))) → B26 f s1) →
  ((x1 = 0 → B26 f 1) ∧ (¬ x1 = 0 → ((x2 = 0 → B26 f 2) ∧ (¬ x2 = 0 → ((x3 = 0 → B26 f 3) ∧ (¬ x3 = 0 → B26 f 0))))))
def P_X7_isInstrument (f : sx_F) (x0 : Int32) (Q : Int32 → Prop) : Prop :=
  (P_X7_in f x0 0 4 (fun r1 => ((r1 = 0 ∨ r1 = 1) ∧ Q r1)))
def P_X7_isBar (f : sx_F) (x1 : Int32) (Q : Int32 → Prop) : Prop :=
  (P_X7_in f x1 0 ((f 0 5) - 1) (fun r1 => ((r1 = 0 ∨ r1 = 1) ∧ Q r1)))
def P_X7_isBook (f : sx_F) (x0 : Int32) (Q : Int32 → Prop) : Prop :=
  (P_X7_in f x0 0 5 (fun r1 => ((r1 = 0 ∨ r1 = 1) ∧ Q r1)))
def P_X7_isCopy (f : sx_F) (x1 : Int32) (Q : Int32 → Prop) : Prop :=
  (P_X7_in f x1 0 ((f 0 11) - 1) (fun r1 => ((r1 = 0 ∨ r1 = 1) ∧ Q r1)))
def P_X7_cell (f : sx_F) (x0 : Int32) (x1 : Int32) (Q : Int32 → Prop) : Prop :=
  Q ((12 * x0) + x1)
def P_X7_bar (f : sx_F) (x1 : Int32) (Q : Int32 → sx_F → Prop) : Prop :=
  ∀ (B22 : sx_F → Int32 → Int32 → Prop),
  (∀ (f : sx_F) (s1 : Int32) (s2 : Int32), (P_X7_goes f s1 s2 1 (fun r2 g1 => ((r2 = 0 → Q 0 g1) ∧ (¬ r2 = 0 → (vp_in (g1 0 5) 12 ∧ ∀ g4 : sx_F, g4 = sx_u g1 1 (g1 0 5).toNatClampNeg x1 → (∀ g5 : sx_F, g5 = sx_u g4 0 5 ((g4 0 5) + 1) → Q ((g5 0 5) - 1) g5)))))) → B22 f s1 s2) →
  (P_X7_in f x1 1 32 (fun r6 => ((12 ≤ (f 0 5) → B22 f r6 0) ∧ (¬ 12 ≤ (f 0 5) → B22 f r6 1))))
def P_X7_filled (f : sx_F) (x1 : Int32) (x2 : Int32) (Q : Int32 → Prop) : Prop :=
  ∀ (B5 : Int32 → Int32 → Prop),
  (∀ (v3 : Int32) (v4 : Int32), ((x2 ≤ v4 → Q v3) ∧ (¬ x2 ≤ v4 → (vp_in ((8 * x1) + v4) 480 ∧ (∀ y2 : Int32, y2 = (v3 + (f 2 ((8 * x1) + v4).toNatClampNeg)) → (∀ y3 : Int32, y3 = v4 + 1 → B5 y2 y3))))) → B5 v3 v4) →
  B5 0 0
def P_X7_note (f : sx_F) (x1 : Int32) (x2 : Int32) (x3 : Int32) (x4 : Int32) (Q : Int32 → sx_F → Prop) : Prop :=
  ∀ (B19 : sx_F → Prop),
  ∀ (B20 : sx_F → Int32 → Prop),
  ∀ (B47 : sx_F → Int32 → Prop),
  ∀ (B48 : sx_F → Int32 → Int32 → Prop),
  ∀ (B64 : sx_F → Int32 → Int32 → Int32 → Prop),
  ∀ (B116 : sx_F → Int32 → Int32 → Int32 → Prop),
  ∀ (B117 : sx_F → Int32 → Int32 → Int32 → Int32 → Prop),
  (∀ (f : sx_F), B20 f 0 → B19 f) →
  (∀ (f : sx_F) (s0 : Int32), (P_X7_in f x3 1 32 (fun r1 => ((r1 = 0 → B47 f s0) ∧ (¬ r1 = 0 → (P_X7_in f x4 0 60 (fun r4 => ((r4 = 0 → B47 f s0) ∧ (¬ r4 = 0 → B48 f s0 1)))))))) → B20 f s0) →
  (∀ (f : sx_F) (v5 : Int32), B48 f v5 0 → B47 f v5) →
  (∀ (f : sx_F) (v5 : Int32) (s0 : Int32), ((v5 = 0 → B64 f v5 s0 0) ∧ (¬ v5 = 0 → (P_X7_cell f x1 x2 (fun r8 => B64 f v5 s0 r8)))) → B48 f v5 s0) →
  (∀ (f : sx_F) (v5 : Int32) (v6 : Int32) (s0 : Int32), ((v5 = 0 → B116 f v5 v6 s0) ∧ (¬ v5 = 0 → (vp_in s0 60 ∧ ((8 ≤ (f 4 s0.toNatClampNeg) → B116 f v5 v6 s0) ∧ (¬ 8 ≤ (f 4 s0.toNatClampNeg) → ((v6 = 0 → B116 f v5 v6 s0) ∧ (¬ v6 = 0 → (vp_in s0 60 ∧ (P_X7_filled f s0 (f 4 s0.toNatClampNeg) (fun r13 => (vp_in x2 12 ∧ (((f 1 x2.toNatClampNeg) < (r13 + x3) → B116 f v5 v6 s0) ∧ (¬ (f 1 x2.toNatClampNeg) < (r13 + x3) → B117 f v5 v6 s0 1))))))))))))) → B64 f v5 v6 s0) →
  (∀ (f : sx_F) (v5 : Int32) (v6 : Int32) (v7 : Int32), B117 f v5 v6 v7 0 → B116 f v5 v6 v7) →
  (∀ (f : sx_F) (v5 : Int32) (v6 : Int32) (v7 : Int32) (s0 : Int32), (P_X7_goes f v5 v6 s0 (fun r17 g16 => ((r17 = 0 → Q 0 g16) ∧ (¬ r17 = 0 → (vp_in v7 60 ∧ (vp_in ((8 * v7) + (g16 4 v7.toNatClampNeg)) 480 ∧ ∀ g19 : sx_F, g19 = sx_u g16 2 ((8 * v7) + (g16 4 v7.toNatClampNeg)).toNatClampNeg x3 → (vp_in v7 60 ∧ (vp_in ((8 * v7) + (g19 4 v7.toNatClampNeg)) 480 ∧ ∀ g20 : sx_F, g20 = sx_u g19 3 ((8 * v7) + (g19 4 v7.toNatClampNeg)).toNatClampNeg x4 → (vp_in v7 60 ∧ (vp_in v7 60 ∧ ∀ g21 : sx_F, g21 = sx_u g20 4 v7.toNatClampNeg ((g20 4 v7.toNatClampNeg) + 1) → (vp_in v7 60 ∧ (vp_in v7 60 ∧ ∀ g22 : sx_F, g22 = sx_u g21 5 v7.toNatClampNeg ((g21 5 v7.toNatClampNeg) + 1) → (vp_in v7 60 ∧ Q (g22 4 v7.toNatClampNeg) g22))))))))))))) → B117 f v5 v6 v7 s0) →
  (P_X7_isInstrument f x1 (fun r23 => ((r23 = 0 → B19 f) ∧ (¬ r23 = 0 → (P_X7_isBar f x2 (fun r26 => ((r26 = 0 → B19 f) ∧ (¬ r26 = 0 → B20 f 1))))))))
def P_X7_isNote (f : sx_F) (x1 : Int32) (x2 : Int32) (x3 : Int32) (Q : Int32 → Prop) : Prop :=
  (P_X7_isInstrument f x1 (fun r1 => ((r1 = 0 → Q 0) ∧ (¬ r1 = 0 → (P_X7_isBar f x2 (fun r4 => ((r4 = 0 → Q 0) ∧ (¬ r4 = 0 → (P_X7_cell f x1 x2 (fun r7 => (vp_in r7 60 ∧ (P_X7_in f x3 0 ((f 4 r7.toNatClampNeg) - 1) (fun r9 => ((r9 = 0 → Q 0) ∧ (¬ r9 = 0 → Q 1)))))))))))))))
def P_X7_mend (f : sx_F) (x1 : Int32) (x2 : Int32) (x3 : Int32) (x4 : Int32) (Q : Int32 → sx_F → Prop) : Prop :=
  ∀ (B84 : sx_F → Int32 → Int32 → Int32 → Int32 → Prop),
  (∀ (f : sx_F) (v7 : Int32) (s1 : Int32) (s2 : Int32) (s3 : Int32), (vp_in s1 60 ∧ ∀ g1 : sx_F, g1 = sx_u f 5 s1.toNatClampNeg (s2 + s3) → Q v7 g1) → B84 f v7 s1 s2 s3) →
  (P_X7_isNote f x1 x2 x3 (fun r2 => (P_X7_in f x4 0 60 (fun r4 => (P_X7_goes f r2 r4 1 (fun r7 g6 => ((r7 = 0 → Q 0 g6) ∧ (¬ r7 = 0 → (P_X7_cell g6 x1 x2 (fun r9 => (vp_in ((8 * r9) + x3) 480 ∧ (∀ y11 : Int32, y11 = (g6 3 ((8 * r9) + x3).toNatClampNeg) → (vp_in ((8 * r9) + x3) 480 ∧ ∀ g12 : sx_F, g12 = sx_u g6 3 ((8 * r9) + x3).toNatClampNeg x4 → (vp_in r9 60 ∧ ((y11 = x4 → B84 g12 y11 r9 (g12 5 r9.toNatClampNeg) 0) ∧ (¬ y11 = x4 → B84 g12 y11 r9 (g12 5 r9.toNatClampNeg) 1))))))))))))))))
def P_X7_empty (f : sx_F) (x1 : Int32) (x2 : Int32) (Q : Int32 → sx_F → Prop) : Prop :=
  ∀ (B20 : sx_F → Prop),
  ∀ (B21 : sx_F → Int32 → Prop),
  ∀ (B69 : sx_F → Int32 → Int32 → Int32 → Int32 → Prop),
  (∀ (f : sx_F), B21 f 0 → B20 f) →
  (∀ (f : sx_F) (s1 : Int32), (P_X7_goes f s1 1 1 (fun r2 g1 => ((r2 = 0 → Q 0 g1) ∧ (¬ r2 = 0 → (P_X7_cell g1 x1 x2 (fun r4 => (vp_in r4 60 ∧ (∀ y6 : Int32, y6 = (g1 4 r4.toNatClampNeg) → (vp_in r4 60 ∧ ∀ g7 : sx_F, g7 = sx_u g1 4 r4.toNatClampNeg 0 → (vp_in r4 60 ∧ ((y6 = 0 → B69 g7 y6 r4 (g7 5 r4.toNatClampNeg) 0) ∧ (¬ y6 = 0 → B69 g7 y6 r4 (g7 5 r4.toNatClampNeg) 1)))))))))))) → B21 f s1) →
  (∀ (f : sx_F) (v4 : Int32) (s1 : Int32) (s2 : Int32) (s3 : Int32), (vp_in s1 60 ∧ ∀ g9 : sx_F, g9 = sx_u f 5 s1.toNatClampNeg (s2 + s3) → Q v4 g9) → B69 f v4 s1 s2 s3) →
  (P_X7_isInstrument f x1 (fun r10 => ((r10 = 0 → B20 f) ∧ (¬ r10 = 0 → (P_X7_isBar f x2 (fun r13 => ((r13 = 0 → B20 f) ∧ (¬ r13 = 0 → B21 f 1))))))))
def P_X7_setPaper (f : sx_F) (x1 : Int32) (x2 : Int32) (Q : Int32 → sx_F → Prop) : Prop :=
  ∀ (B27 : sx_F → Prop),
  ∀ (B28 : sx_F → Int32 → Prop),
  (∀ (f : sx_F), B28 f 0 → B27 f) →
  (∀ (f : sx_F) (s1 : Int32), (P_X7_goes f s1 1 1 (fun r2 g1 => ((r2 = 0 → Q 0 g1) ∧ (¬ r2 = 0 → (∀ y4 : Int32, y4 = (g1 0 6) → (∀ g5 : sx_F, g5 = sx_u g1 0 6 x1 → (∀ g6 : sx_F, g6 = sx_u g5 0 7 x2 → Q y4 g6))))))) → B28 f s1) →
  (P_X7_in f x1 80 500 (fun r7 => ((r7 = 0 → B27 f) ∧ (¬ r7 = 0 → (P_X7_in f x2 1 6 (fun r10 => ((r10 = 0 → B27 f) ∧ (¬ r10 = 0 → B28 f 1))))))))
def P_X7_copy (f : sx_F) (x1 : Int32) (Q : Int32 → sx_F → Prop) : Prop :=
  ∀ (B19 : sx_F → Int32 → Int32 → Prop),
  (∀ (f : sx_F) (s1 : Int32) (s2 : Int32), (P_X7_goes f s1 s2 1 (fun r2 g1 => ((r2 = 0 → Q 0 g1) ∧ (¬ r2 = 0 → (vp_in (g1 0 11) 16 ∧ ∀ g4 : sx_F, g4 = sx_u g1 6 (g1 0 11).toNatClampNeg x1 → (vp_in (g4 0 11) 16 ∧ ∀ g5 : sx_F, g5 = sx_u g4 7 (g4 0 11).toNatClampNeg (-1) → (∀ g6 : sx_F, g6 = sx_u g5 0 11 ((g5 0 11) + 1) → Q ((g6 0 11) - 1) g6))))))) → B19 f s1 s2) →
  (P_X7_isInstrument f x1 (fun r7 => ((16 ≤ (f 0 11) → B19 f r7 0) ∧ (¬ 16 ≤ (f 0 11) → B19 f r7 1))))
def P_X7_away (f : sx_F)  (Q : Int32 → Prop) : Prop :=
  ∀ (B4 : Int32 → Int32 → Prop),
  ∀ (B28 : Int32 → Int32 → Int32 → Prop),
  (∀ (v1 : Int32) (v2 : Int32), (((f 0 11) ≤ v2 → Q v1) ∧ (¬ (f 0 11) ≤ v2 → (vp_in v2 16 ∧ (((f 7 v2.toNatClampNeg) = (-1) → B28 v2 v1 0) ∧ (¬ (f 7 v2.toNatClampNeg) = (-1) → B28 v2 v1 1))))) → B4 v1 v2) →
  (∀ (v2 : Int32) (s0 : Int32) (s1 : Int32), (∀ y3 : Int32, y3 = (s0 + s1) → (∀ y4 : Int32, y4 = v2 + 1 → B4 y3 y4)) → B28 v2 s0 s1) →
  B4 0 0
def P_X7_renews (f : sx_F) (x1 : Int32) (Q : sx_F → Prop) : Prop :=
  ∀ (B2 : sx_F → Int32 → Prop),
  ∀ (B45 : sx_F → Int32 → Int32 → Int32 → Prop),
  (∀ (f : sx_F) (v2 : Int32), ((12 ≤ v2 → Q f) ∧ (¬ 12 ≤ v2 → (((f 0 5) ≤ v2 → B45 f v2 ((12 * x1) + v2) (-1)) ∧ (¬ (f 0 5) ≤ v2 → (vp_in x1 16 ∧ (P_X7_cell f (f 6 x1.toNatClampNeg) v2 (fun r3 => (vp_in r3 60 ∧ B45 f v2 ((12 * x1) + v2) (f 5 r3.toNatClampNeg))))))))) → B2 f v2) →
  (∀ (f : sx_F) (v2 : Int32) (s1 : Int32) (s2 : Int32), (vp_in s1 192 ∧ ∀ g5 : sx_F, g5 = sx_u f 8 s1.toNatClampNeg s2 → (∀ y6 : Int32, y6 = v2 + 1 → B2 g5 y6)) → B45 f v2 s1 s2) →
  B2 f 0
def P_X7_lend (f : sx_F) (x1 : Int32) (x2 : Int32) (Q : Int32 → sx_F → Prop) : Prop :=
  ∀ (B21 : sx_F → Prop),
  ∀ (B22 : sx_F → Int32 → Prop),
  ∀ (B41 : sx_F → Int32 → Prop),
  ∀ (B42 : sx_F → Int32 → Int32 → Prop),
  ∀ (B47 : sx_F → Int32 → Int32 → Int32 → Prop),
  ∀ (B92 : sx_F → Int32 → Int32 → Prop),
  ∀ (B96 : sx_F → Int32 → Int32 → Prop),
  ∀ (B97 : sx_F → Int32 → Int32 → Int32 → Prop),
  ∀ (B105 : sx_F → Int32 → Int32 → Prop),
  (∀ (f : sx_F), B22 f 0 → B21 f) →
  (∀ (f : sx_F) (s0 : Int32), ((s0 = 0 → B41 f s0) ∧ (¬ s0 = 0 → (vp_in x1 16 ∧ (((f 7 x1.toNatClampNeg) = (-1) → B42 f s0 1) ∧ (¬ (f 7 x1.toNatClampNeg) = (-1) → B41 f s0))))) → B22 f s0) →
  (∀ (f : sx_F) (v3 : Int32), B42 f v3 0 → B41 f v3) →
  (∀ (f : sx_F) (v3 : Int32) (s0 : Int32), B47 f v3 s0 0 → B42 f v3 s0) →
  (∀ (f : sx_F) (v3 : Int32) (v4 : Int32) (v5 : Int32), (((f 0 11) ≤ v5 → B105 f v3 v4) ∧ (¬ (f 0 11) ≤ v5 → ((v3 = 0 → B105 f v3 v4) ∧ (¬ v3 = 0 → ((v4 = 0 → B96 f v3 v5) ∧ (¬ v4 = 0 → (vp_in v5 16 ∧ (((f 7 v5.toNatClampNeg) = x2 → (vp_in v5 16 ∧ (vp_in x1 16 ∧ (((f 6 v5.toNatClampNeg) = (f 6 x1.toNatClampNeg) → B96 f v3 v5) ∧ (¬ (f 6 v5.toNatClampNeg) = (f 6 x1.toNatClampNeg) → B92 f v3 v5))))) ∧ (¬ (f 7 v5.toNatClampNeg) = x2 → B92 f v3 v5))))))))) → B47 f v3 v4 v5) →
  (∀ (f : sx_F) (v3 : Int32) (v5 : Int32), B97 f v3 v5 1 → B92 f v3 v5) →
  (∀ (f : sx_F) (v3 : Int32) (v5 : Int32), B97 f v3 v5 0 → B96 f v3 v5) →
  (∀ (f : sx_F) (v3 : Int32) (v5 : Int32) (s0 : Int32), (∀ y8 : Int32, y8 = v5 + 1 → B47 f v3 s0 y8) → B97 f v3 v5 s0) →
  (∀ (f : sx_F) (v3 : Int32) (v4 : Int32), (P_X7_goes f v3 v4 1 (fun r10 g9 => ((r10 = 0 → Q 0 g9) ∧ (¬ r10 = 0 → (vp_in x1 16 ∧ ∀ g12 : sx_F, g12 = sx_u g9 7 x1.toNatClampNeg x2 → (P_X7_renews g12 x1 (fun g13 => (P_X7_away g13 (fun r14 => Q r14 g13))))))))) → B105 f v3 v4) →
  (P_X7_isCopy f x1 (fun r16 => ((r16 = 0 → B21 f) ∧ (¬ r16 = 0 → (P_X7_in f x2 0 5 (fun r19 => ((r19 = 0 → B21 f) ∧ (¬ r19 = 0 → B22 f 1))))))))
def P_X7_owes (f : sx_F) (x1 : Int32) (x2 : Int32) (Q : Int32 → Prop) : Prop :=
  (vp_in x1 16 ∧ (((f 7 x1.toNatClampNeg) = (-1) → Q 0) ∧ (¬ (f 7 x1.toNatClampNeg) = (-1) → (vp_in ((12 * x1) + x2) 192 ∧ (vp_in x1 16 ∧ (P_X7_cell f (f 6 x1.toNatClampNeg) x2 (fun r2 => (vp_in r2 60 ∧ (((f 8 ((12 * x1) + x2).toNatClampNeg) = (f 5 r2.toNatClampNeg) → Q 0) ∧ (¬ (f 8 ((12 * x1) + x2).toNatClampNeg) = (f 5 r2.toNatClampNeg) → Q 1))))))))))
def P_X7_owedBy (f : sx_F) (x1 : Int32) (Q : Int32 → Prop) : Prop :=
  ∀ (B4 : Int32 → Int32 → Prop),
  ∀ (B27 : Int32 → Int32 → Int32 → Prop),
  (∀ (v2 : Int32) (v3 : Int32), (((f 0 5) ≤ v3 → Q v2) ∧ (¬ (f 0 5) ≤ v3 → (P_X7_owes f x1 v3 (fun r2 => ((r2 = 0 → B27 v3 v2 0) ∧ (¬ r2 = 0 → B27 v3 v2 1)))))) → B4 v2 v3) →
  (∀ (v3 : Int32) (s0 : Int32) (s1 : Int32), (∀ y5 : Int32, y5 = (s0 + s1) → (∀ y6 : Int32, y6 = v3 + 1 → B4 y5 y6)) → B27 v3 s0 s1) →
  B4 0 0
def P_X7_isAway (f : sx_F) (x1 : Int32) (Q : Int32 → Prop) : Prop :=
  (P_X7_isCopy f x1 (fun r1 => ((r1 = 0 → Q 0) ∧ (¬ r1 = 0 → (vp_in x1 16 ∧ (((f 7 x1.toNatClampNeg) = (-1) → Q 0) ∧ (¬ (f 7 x1.toNatClampNeg) = (-1) → Q 1)))))))
def P_X7_giveBack (f : sx_F) (x1 : Int32) (Q : Int32 → sx_F → Prop) : Prop :=
  (P_X7_isCopy f x1 (fun r1 => (P_X7_isAway f x1 (fun r3 => (P_X7_goes f r1 r3 1 (fun r6 g5 => ((r6 = 0 → Q 0 g5) ∧ (¬ r6 = 0 → (P_X7_owedBy g5 x1 (fun r8 => (vp_in x1 16 ∧ ∀ g10 : sx_F, g10 = sx_u g5 7 x1.toNatClampNeg (-1) → Q r8 g10)))))))))))
def P_X7_paste (f : sx_F) (x1 : Int32) (Q : Int32 → sx_F → Prop) : Prop :=
  (P_X7_isCopy f x1 (fun r1 => (P_X7_isAway f x1 (fun r3 => (P_X7_goes f r1 r3 1 (fun r6 g5 => ((r6 = 0 → Q 0 g5) ∧ (¬ r6 = 0 → (P_X7_owedBy g5 x1 (fun r8 => (P_X7_renews g5 x1 (fun g10 => Q r8 g10))))))))))))
def P_X7_mark (f : sx_F) (x1 : Int32) (x2 : Int32) (x3 : Int32) (Q : Int32 → sx_F → Prop) : Prop :=
  ∀ (B20 : sx_F → Prop),
  ∀ (B21 : sx_F → Int32 → Prop),
  ∀ (B57 : sx_F → Int32 → Prop),
  ∀ (B58 : sx_F → Int32 → Int32 → Prop),
  (∀ (f : sx_F), B21 f 0 → B20 f) →
  (∀ (f : sx_F) (s0 : Int32), ((s0 = 0 → B57 f s0) ∧ (¬ s0 = 0 → (vp_in x1 16 ∧ (((f 7 x1.toNatClampNeg) = (-1) → B57 f s0) ∧ (¬ (f 7 x1.toNatClampNeg) = (-1) → (vp_in ((12 * x1) + x2) 192 ∧ (((f 8 ((12 * x1) + x2).toNatClampNeg) = (-1) → B57 f s0) ∧ (¬ (f 8 ((12 * x1) + x2).toNatClampNeg) = (-1) → B58 f s0 1)))))))) → B21 f s0) →
  (∀ (f : sx_F) (v4 : Int32), B58 f v4 0 → B57 f v4) →
  (∀ (f : sx_F) (v4 : Int32) (s0 : Int32), (P_X7_in f x3 0 9 (fun r4 => (P_X7_goes f v4 r4 s0 (fun r7 g6 => ((r7 = 0 → Q 0 g6) ∧ (¬ r7 = 0 → (vp_in x1 16 ∧ (vp_in x1 16 ∧ (P_X7_cell g6 (g6 6 x1.toNatClampNeg) x2 (fun r9 => (∀ y11 : Int32, y11 = ((60 * (g6 7 x1.toNatClampNeg)) + r9) → (vp_in y11 360 ∧ (∀ y12 : Int32, y12 = (g6 9 y11.toNatClampNeg) → (vp_in y11 360 ∧ ∀ g13 : sx_F, g13 = sx_u g6 9 y11.toNatClampNeg x3 → (vp_in ((12 * x1) + x2) 192 ∧ (vp_in y11 360 ∧ ∀ g14 : sx_F, g14 = sx_u g13 10 y11.toNatClampNeg (g13 8 ((12 * x1) + x2).toNatClampNeg) → Q y12 g14)))))))))))))))) → B58 f v4 s0) →
  (P_X7_isCopy f x1 (fun r15 => ((r15 = 0 → B20 f) ∧ (¬ r15 = 0 → (P_X7_isBar f x2 (fun r18 => ((r18 = 0 → B20 f) ∧ (¬ r18 = 0 → B21 f 1))))))))
def P_X7_bowing (f : sx_F) (x1 : Int32) (x2 : Int32) (x3 : Int32) (Q : Int32 → Prop) : Prop :=
  (∀ y1 : Int32, y1 = ((8 * ((60 * x1) + x2)) + x3) → (vp_in y1 2880 ∧ (vp_in x2 60 ∧ (((f 12 y1.toNatClampNeg) = (f 5 x2.toNatClampNeg) → (vp_in y1 2880 ∧ Q (f 11 y1.toNatClampNeg))) ∧ (¬ (f 12 y1.toNatClampNeg) = (f 5 x2.toNatClampNeg) → Q 0)))))
def P_X7_bow (f : sx_F) (x1 : Int32) (x2 : Int32) (x3 : Int32) (x4 : Int32) (Q : Int32 → sx_F → Prop) : Prop :=
  ∀ (B31 : sx_F → Prop),
  ∀ (B32 : sx_F → Int32 → Prop),
  ∀ (B72 : sx_F → Int32 → Int32 → Prop),
  ∀ (B73 : sx_F → Int32 → Int32 → Int32 → Prop),
  (∀ (f : sx_F), B32 f 0 → B31 f) →
  (∀ (f : sx_F) (s0 : Int32), (P_X7_in f x4 0 2 (fun r1 => ((s0 = 0 → B72 f s0 r1) ∧ (¬ s0 = 0 → (vp_in x1 16 ∧ (((f 7 x1.toNatClampNeg) = (-1) → B72 f s0 r1) ∧ (¬ (f 7 x1.toNatClampNeg) = (-1) → (P_X7_owes f x1 x2 (fun r5 => ((r5 = 0 → B73 f s0 r1 1) ∧ (¬ r5 = 0 → B72 f s0 r1))))))))))) → B32 f s0) →
  (∀ (f : sx_F) (s1 : Int32) (s2 : Int32), B73 f s1 s2 0 → B72 f s1 s2) →
  (∀ (f : sx_F) (s1 : Int32) (s2 : Int32) (s3 : Int32), (P_X7_goes f s1 s2 s3 (fun r9 g8 => ((r9 = 0 → Q 0 g8) ∧ (¬ r9 = 0 → (vp_in x1 16 ∧ (P_X7_cell g8 (g8 6 x1.toNatClampNeg) x2 (fun r11 => (vp_in x1 16 ∧ (∀ y13 : Int32, y13 = ((8 * ((60 * (g8 7 x1.toNatClampNeg)) + r11)) + x3) → (vp_in x1 16 ∧ (P_X7_bowing g8 (g8 7 x1.toNatClampNeg) r11 x3 (fun r14 => (vp_in y13 2880 ∧ ∀ g16 : sx_F, g16 = sx_u g8 11 y13.toNatClampNeg x4 → (vp_in r11 60 ∧ (vp_in y13 2880 ∧ ∀ g17 : sx_F, g17 = sx_u g16 12 y13.toNatClampNeg (g16 5 r11.toNatClampNeg) → Q r14 g17))))))))))))))) → B73 f s1 s2 s3) →
  (P_X7_isCopy f x1 (fun r18 => ((r18 = 0 → B31 f) ∧ (¬ r18 = 0 → (vp_in x1 16 ∧ (P_X7_isNote f (f 6 x1.toNatClampNeg) x2 x3 (fun r21 => ((r21 = 0 → B31 f) ∧ (¬ r21 = 0 → B32 f 1)))))))))
def P_X7_play (f : sx_F)  (Q : Int32 → sx_F → Prop) : Prop :=
  ∀ (B12 : sx_F → Int32 → Prop),
  ∀ (B15 : sx_F → Int32 → Int32 → Prop),
  ∀ (B39 : sx_F → Int32 → Prop),
  ∀ (B40 : sx_F → Int32 → Int32 → Prop),
  (∀ (f : sx_F) (s0 : Int32), B15 f s0 0 → B12 f s0) →
  (∀ (f : sx_F) (v1 : Int32) (v2 : Int32), (((f 0 11) ≤ v2 → (P_X7_goes f v1 1 1 (fun r3 g2 => ((r3 = 0 → Q 0 g2) ∧ (¬ r3 = 0 → (∀ g5 : sx_F, g5 = sx_u g2 0 12 ((g2 0 12) + 1) → (P_X7_away g5 (fun r6 => Q r6 g5)))))))) ∧ (¬ (f 0 11) ≤ v2 → ((v1 = 0 → B39 f v2) ∧ (¬ v1 = 0 → (P_X7_owedBy f v2 (fun r9 => ((r9 = 0 → B40 f v2 1) ∧ (¬ r9 = 0 → B39 f v2)))))))) → B15 f v1 v2) →
  (∀ (f : sx_F) (v2 : Int32), B40 f v2 0 → B39 f v2) →
  (∀ (f : sx_F) (v2 : Int32) (s0 : Int32), (∀ y12 : Int32, y12 = v2 + 1 → B15 f s0 y12) → B40 f v2 s0) →
  (P_X7_away f (fun r13 => ((r13 ≤ 0 → B12 f 0) ∧ (¬ r13 ≤ 0 → B12 f 1))))
def P_X7_bars (f : sx_F)  (Q : Int32 → sx_F → Prop) : Prop :=
  (∀ g1 : sx_F, g1 = sx_u f 0 33 0 → Q (g1 0 5) g1)
def P_X7_notes (f : sx_F) (x1 : Int32) (x2 : Int32) (Q : Int32 → sx_F → Prop) : Prop :=
  ∀ (B20 : sx_F → Prop),
  ∀ (B21 : sx_F → Int32 → Prop),
  (∀ (f : sx_F), B21 f 0 → B20 f) →
  (∀ (f : sx_F) (s1 : Int32), (P_X7_goes f s1 1 1 (fun r2 g1 => ((r2 = 0 → Q 0 g1) ∧ (¬ r2 = 0 → (P_X7_cell g1 x1 x2 (fun r4 => (vp_in r4 60 ∧ Q (g1 4 r4.toNatClampNeg) g1))))))) → B21 f s1) →
  (P_X7_isInstrument f x1 (fun r6 => ((r6 = 0 → B20 f) ∧ (¬ r6 = 0 → (P_X7_isBar f x2 (fun r9 => ((r9 = 0 → B20 f) ∧ (¬ r9 = 0 → B21 f 1))))))))
def P_X7_noteAt (f : sx_F) (x1 : Int32) (x2 : Int32) (x3 : Int32) (Q : Int32 → sx_F → Prop) : Prop :=
  (P_X7_isNote f x1 x2 x3 (fun r1 => (P_X7_goes f r1 1 1 (fun r4 g3 => ((r4 = 0 → Q 0 g3) ∧ (¬ r4 = 0 → (P_X7_cell g3 x1 x2 (fun r6 => (∀ y8 : Int32, y8 = ((8 * r6) + x3) → (vp_in y8 480 ∧ (vp_in y8 480 ∧ Q ((100 * (g3 2 y8.toNatClampNeg)) + (g3 3 y8.toNatClampNeg)) g3)))))))))))
def P_X7_version (f : sx_F) (x1 : Int32) (x2 : Int32) (Q : Int32 → sx_F → Prop) : Prop :=
  ∀ (B20 : sx_F → Prop),
  ∀ (B21 : sx_F → Int32 → Prop),
  (∀ (f : sx_F), B21 f 0 → B20 f) →
  (∀ (f : sx_F) (s1 : Int32), (P_X7_goes f s1 1 1 (fun r2 g1 => ((r2 = 0 → Q 0 g1) ∧ (¬ r2 = 0 → (P_X7_cell g1 x1 x2 (fun r4 => (vp_in r4 60 ∧ Q (g1 5 r4.toNatClampNeg) g1))))))) → B21 f s1) →
  (P_X7_isInstrument f x1 (fun r6 => ((r6 = 0 → B20 f) ∧ (¬ r6 = 0 → (P_X7_isBar f x2 (fun r9 => ((r9 = 0 → B20 f) ∧ (¬ r9 = 0 → B21 f 1))))))))
def P_X7_time (f : sx_F) (x1 : Int32) (Q : Int32 → sx_F → Prop) : Prop :=
  ∀ (B21 : sx_F → Int32 → Int32 → Int32 → Prop),
  (∀ (f : sx_F) (v2 : Int32) (v3 : Int32) (v4 : Int32), ((v3 = 0 → Q v2 f) ∧ (¬ v3 = 0 → ((x1 ≤ v4 → Q v2 f) ∧ (¬ x1 ≤ v4 → (vp_in v4 12 ∧ (∀ y3 : Int32, y3 = (v2 + (f 1 v4.toNatClampNeg)) → (∀ y4 : Int32, y4 = v4 + 1 → B21 f y3 v3 y4))))))) → B21 f v2 v3 v4) →
  (P_X7_in f x1 0 (f 0 5) (fun r5 => (P_X7_goes f r5 1 1 (fun r8 g7 => B21 g7 0 r8 0))))
def P_X7_timeByBars (f : sx_F) (x1 : Int32) (Q : Int32 → sx_F → Prop) : Prop :=
  (P_X7_time f x1 (fun r2 g1 => Q r2 g1))
def P_X7_isSilent (f : sx_F) (x1 : Int32) (x2 : Int32) (Q : Int32 → Prop) : Prop :=
  ∀ (B12 : Int32 → Int32 → Int32 → Prop),
  ∀ (B48 : Int32 → Int32 → Prop),
  ∀ (B49 : Int32 → Int32 → Int32 → Prop),
  (∀ (v3 : Int32) (v4 : Int32) (v5 : Int32), (vp_in v4 60 ∧ (((f 4 v4.toNatClampNeg) ≤ v5 → ((v3 = 0 ∨ v3 = 1) ∧ Q v3)) ∧ (¬ (f 4 v4.toNatClampNeg) ≤ v5 → ((v3 = 0 → B48 v4 v5) ∧ (¬ v3 = 0 → (vp_in ((8 * v4) + v5) 480 ∧ (((f 3 ((8 * v4) + v5).toNatClampNeg) = 0 → B49 v4 v5 1) ∧ (¬ (f 3 ((8 * v4) + v5).toNatClampNeg) = 0 → B48 v4 v5)))))))) → B12 v3 v4 v5) →
  (∀ (v4 : Int32) (v5 : Int32), B49 v4 v5 0 → B48 v4 v5) →
  (∀ (v4 : Int32) (v5 : Int32) (s0 : Int32), (∀ y4 : Int32, y4 = v5 + 1 → B12 s0 v4 y4) → B49 v4 v5 s0) →
  (P_X7_cell f x1 x2 (fun r5 => B12 1 r5 0))
def P_X7_cueFor (f : sx_F) (x1 : Int32) (x2 : Int32) (Q : Int32 → Prop) : Prop :=
  ∀ (B5 : Int32 → Int32 → Prop),
  ∀ (B31 : Int32 → Int32 → Prop),
  ∀ (B32 : Int32 → Int32 → Int32 → Prop),
  ∀ (B68 : Int32 → Prop),
  ∀ (B73 : Int32 → Int32 → Prop),
  ∀ (B74 : Int32 → Int32 → Prop),
  (∀ (v3 : Int32) (v4 : Int32), ((5 ≤ v4 → Q v3) ∧ (¬ 5 ≤ v4 → ((v4 = x1 → B31 v3 v4) ∧ (¬ v4 = x1 → (P_X7_isSilent f v4 x2 (fun r3 => ((r3 = 0 → B32 v3 v4 1) ∧ (¬ r3 = 0 → B31 v3 v4)))))))) → B5 v3 v4) →
  (∀ (v3 : Int32) (v4 : Int32), B32 v3 v4 0 → B31 v3 v4) →
  (∀ (v3 : Int32) (v4 : Int32) (s0 : Int32), ((s0 = 0 → B73 v3 v4) ∧ (¬ s0 = 0 → ((v3 = (-1) → B68 v4) ∧ (¬ v3 = (-1) → (P_X7_cell f v4 x2 (fun r8 => (vp_in r8 60 ∧ (P_X7_cell f v3 x2 (fun r10 => (vp_in r10 60 ∧ (((f 4 r8.toNatClampNeg) ≤ (f 4 r10.toNatClampNeg) → B73 v3 v4) ∧ (¬ (f 4 r8.toNatClampNeg) ≤ (f 4 r10.toNatClampNeg) → B68 v4)))))))))))) → B32 v3 v4 s0) →
  (∀ (v4 : Int32), B74 v4 v4 → B68 v4) →
  (∀ (v3 : Int32) (v4 : Int32), B74 v4 v3 → B73 v3 v4) →
  (∀ (v4 : Int32) (s0 : Int32), (∀ y13 : Int32, y13 = v4 + 1 → B5 s0 y13) → B74 v4 s0) →
  B5 (-1) 0
def P_X7_adds (f : sx_F) (x1 : Int32) (x2 : Int32) (x3 : Int32) (Q : sx_F → Prop) : Prop :=
  (vp_in (f 0 20) 12 ∧ ∀ g1 : sx_F, g1 = sx_u f 13 (f 0 20).toNatClampNeg x1 → (vp_in (g1 0 20) 12 ∧ ∀ g2 : sx_F, g2 = sx_u g1 14 (g1 0 20).toNatClampNeg x2 → (vp_in (g2 0 20) 12 ∧ ∀ g3 : sx_F, g3 = sx_u g2 15 (g2 0 20).toNatClampNeg x3 → (∀ g4 : sx_F, g4 = sx_u g3 0 20 ((g3 0 20) + 1) → Q g4))))
def P_X7_laysItems (f : sx_F) (x1 : Int32) (Q : sx_F → Prop) : Prop :=
  ∀ (B7 : sx_F → Int32 → Prop),
  ∀ (B17 : sx_F → Int32 → Int32 → Prop),
  ∀ (B45 : sx_F → Int32 → Int32 → Prop),
  ∀ (B89 : sx_F → Int32 → Int32 → Prop),
  ∀ (B90 : sx_F → Int32 → Int32 → Int32 → Prop),
  ∀ (B109 : sx_F → Int32 → Int32 → Int32 → Int32 → Prop),
  ∀ (B131 : sx_F → Int32 → Prop),
  (∀ (f : sx_F) (v2 : Int32), (((f 0 5) ≤ v2 → Q f) ∧ (¬ (f 0 5) ≤ v2 → B17 f v2 v2)) → B7 f v2) →
  (∀ (f : sx_F) (v2 : Int32) (v3 : Int32), ((x1 = 5 → B45 f v2 v3) ∧ (¬ x1 = 5 → (((f 0 5) ≤ v3 → B45 f v2 v3) ∧ (¬ (f 0 5) ≤ v3 → (P_X7_isSilent f x1 v3 (fun r4 => ((r4 = 0 → B45 f v2 v3) ∧ (¬ r4 = 0 → (∀ y7 : Int32, y7 = v3 + 1 → B17 f v2 y7))))))))) → B17 f v2 v3) →
  (∀ (f : sx_F) (v2 : Int32) (v3 : Int32), ((v3 = v2 → (P_X7_adds f v2 v2 x1 (fun g13 => (∀ y14 : Int32, y14 = v3 + 1 → B131 g13 y14)))) ∧ (¬ v3 = v2 → (((v3 - v2) < 3 → B89 f v2 v3) ∧ (¬ (v3 - v2) < 3 → (((f 0 5) ≤ v3 → B89 f v2 v3) ∧ (¬ (f 0 5) ≤ v3 → (P_X7_cueFor f x1 (v3 - 1) (fun r11 => B90 f v2 v3 r11)))))))) → B45 f v2 v3) →
  (∀ (f : sx_F) (v2 : Int32) (v3 : Int32), B90 f v2 v3 (-1) → B89 f v2 v3) →
  (∀ (f : sx_F) (v2 : Int32) (v3 : Int32) (s0 : Int32), ((s0 = (-1) → B109 f v3 s0 v2 (v3 - 1)) ∧ (¬ s0 = (-1) → B109 f v3 s0 v2 (v3 - 2))) → B90 f v2 v3 s0) →
  (∀ (f : sx_F) (v3 : Int32) (v4 : Int32) (s1 : Int32) (s2 : Int32), (P_X7_adds f s1 s2 (-1) (fun g16 => ((v4 = (-1) → B131 g16 v3) ∧ (¬ v4 = (-1) → (P_X7_adds g16 (v3 - 1) (v3 - 1) v4 (fun g18 => B131 g18 v3)))))) → B109 f v3 v4 s1 s2) →
  (∀ (f : sx_F) (v3 : Int32), B7 f v3 → B131 f v3) →
  (∀ g19 : sx_F, g19 = sx_u f 0 20 0 → B7 g19 0)
def P_X7_begins (f : sx_F) (x1 : Int32) (x2 : Int32) (x3 : Int32) (Q : Int32 → Prop) : Prop :=
  ∀ (B13 : Int32 → Int32 → Int32 → Prop),
  (∀ (v4 : Int32) (v5 : Int32) (v6 : Int32), (vp_in v4 60 ∧ (((f 4 v4.toNatClampNeg) ≤ v6 → ((v5 = x3 → (vp_in x2 12 ∧ (((f 1 x2.toNatClampNeg) ≤ v5 → Q 0) ∧ (¬ (f 1 x2.toNatClampNeg) ≤ v5 → Q 1)))) ∧ (¬ v5 = x3 → Q 0))) ∧ (¬ (f 4 v4.toNatClampNeg) ≤ v6 → ((v5 = x3 → (vp_in ((8 * v4) + v6) 480 ∧ (((f 3 ((8 * v4) + v6).toNatClampNeg) ≤ 0 → Q 1) ∧ (¬ (f 3 ((8 * v4) + v6).toNatClampNeg) ≤ 0 → Q 2)))) ∧ (¬ v5 = x3 → (vp_in ((8 * v4) + v6) 480 ∧ (∀ y5 : Int32, y5 = (v5 + (f 2 ((8 * v4) + v6).toNatClampNeg)) → (∀ y6 : Int32, y6 = v6 + 1 → B13 v4 y5 y6)))))))) → B13 v4 v5 v6) →
  (P_X7_cell f x1 x2 (fun r8 => B13 r8 0 0))
def P_X7_halvings (f : sx_F) (x0 : Int32) (Q : Int32 → Prop) : Prop :=
  ∀ (B4 : Int32 → Int32 → Prop),
  (∀ (v1 : Int32) (v2 : Int32), ((v2 ≤ 1 → Q v1) ∧ (¬ v2 ≤ 1 → (∀ y2 : Int32, y2 = (v2 / 2) → (∀ y3 : Int32, y3 = v1 + 1 → B4 y3 y2)))) → B4 v1 v2) →
  B4 0 x0
def P_X7_laysSprings (f : sx_F)  (Q : sx_F → Prop) : Prop :=
  ∀ (B9 : sx_F → Int32 → Prop),
  ∀ (B51 : sx_F → Int32 → Int32 → Int32 → Int32 → Prop),
  ∀ (B73 : sx_F → Int32 → Int32 → Int32 → Int32 → Int32 → Prop),
  ∀ (B78 : sx_F → Int32 → Int32 → Int32 → Int32 → Int32 → Int32 → Prop),
  ∀ (B109 : sx_F → Int32 → Int32 → Int32 → Int32 → Int32 → Int32 → Int32 → Int32 → Int32 → Prop),
  ∀ (B139 : sx_F → Int32 → Int32 → Int32 → Int32 → Int32 → Int32 → Int32 → Int32 → Int32 → Int32 → Int32 → Prop),
  ∀ (B155 : sx_F → Int32 → Int32 → Int32 → Int32 → Int32 → Int32 → Int32 → Int32 → Int32 → Int32 → Prop),
  ∀ (B174 : sx_F → Int32 → Int32 → Int32 → Int32 → Int32 → Int32 → Int32 → Prop),
  ∀ (B195 : sx_F → Int32 → Int32 → Int32 → Int32 → Int32 → Int32 → Prop),
  ∀ (B201 : sx_F → Int32 → Int32 → Int32 → Prop),
  ∀ (B209 : sx_F → Int32 → Int32 → Int32 → Int32 → Prop),
  ∀ (B241 : sx_F → Int32 → Int32 → Int32 → Int32 → Int32 → Prop),
  ∀ (B293 : sx_F → Int32 → Int32 → Int32 → Int32 → Int32 → Int32 → Prop),
  ∀ (B336 : sx_F → Int32 → Int32 → Prop),
  ∀ (B369 : sx_F → Int32 → Int32 → Int32 → Prop),
  (∀ (f : sx_F) (v1 : Int32), (((f 0 20) ≤ v1 → Q f) ∧ (¬ (f 0 20) ≤ v1 → (vp_in v1 13 ∧ (∀ y2 : Int32, y2 = (f 16 v1.toNatClampNeg) → (vp_in v1 12 ∧ (∀ y3 : Int32, y3 = (f 13 v1.toNatClampNeg) → (vp_in v1 12 ∧ (((f 15 v1.toNatClampNeg) = 5 → B51 f v1 y2 y3 0) ∧ (¬ (f 15 v1.toNatClampNeg) = 5 → (vp_in v1 12 ∧ B51 f v1 y2 y3 (f 15 v1.toNatClampNeg))))))))))) → B9 f v1) →
  (∀ (f : sx_F) (v1 : Int32) (v2 : Int32) (v3 : Int32) (s0 : Int32), (vp_in v1 12 ∧ (((f 15 v1.toNatClampNeg) = 5 → B73 f v1 v2 v3 s0 4) ∧ (¬ (f 15 v1.toNatClampNeg) = 5 → (vp_in v1 12 ∧ B73 f v1 v2 v3 s0 (f 15 v1.toNatClampNeg))))) → B51 f v1 v2 v3 s0) →
  (∀ (f : sx_F) (v1 : Int32) (v2 : Int32) (v3 : Int32) (v4 : Int32) (s0 : Int32), B78 f v1 v2 v3 v4 s0 0 → B73 f v1 v2 v3 v4 s0) →
  (∀ (f : sx_F) (v1 : Int32) (v2 : Int32) (v3 : Int32) (v4 : Int32) (v5 : Int32) (v6 : Int32), (vp_in v3 12 ∧ (((f 1 v3.toNatClampNeg) ≤ v6 → B201 f v1 v2 v3) ∧ (¬ (f 1 v3.toNatClampNeg) ≤ v6 → (vp_in v1 12 ∧ (((f 15 v1.toNatClampNeg) = (-1) → B201 f v1 v2 v3) ∧ (¬ (f 15 v1.toNatClampNeg) = (-1) → B109 f v1 v2 v3 v4 v5 v6 0 0 v4)))))) → B78 f v1 v2 v3 v4 v5 v6) →
  (∀ (f : sx_F) (v1 : Int32) (v2 : Int32) (v3 : Int32) (v4 : Int32) (v5 : Int32) (v6 : Int32) (v7 : Int32) (v8 : Int32) (v9 : Int32), ((v5 < v9 → ((v6 = 0 → B174 f v1 v2 v3 v4 v5 v6 v8) ∧ (¬ v6 = 0 → ((v7 ≤ 0 → B195 f v1 v2 v3 v4 v5 v6) ∧ (¬ v7 ≤ 0 → B174 f v1 v2 v3 v4 v5 v6 v8))))) ∧ (¬ v5 < v9 → (P_X7_begins f v9 v3 v6 (fun r11 => ((r11 ≤ 0 → B139 f v1 v2 v3 v4 v5 v6 v8 v9 r11 v7 0) ∧ (¬ r11 ≤ 0 → B139 f v1 v2 v3 v4 v5 v6 v8 v9 r11 v7 1)))))) → B109 f v1 v2 v3 v4 v5 v6 v7 v8 v9) →
  (∀ (f : sx_F) (v1 : Int32) (v2 : Int32) (v3 : Int32) (v4 : Int32) (v5 : Int32) (v6 : Int32) (v8 : Int32) (v9 : Int32) (v10 : Int32) (s0 : Int32) (s1 : Int32), (∀ y14 : Int32, y14 = (s0 + s1) → ((v10 = 2 → B155 f v1 v2 v3 v4 v5 v6 y14 v9 v8 1) ∧ (¬ v10 = 2 → B155 f v1 v2 v3 v4 v5 v6 y14 v9 v8 0))) → B139 f v1 v2 v3 v4 v5 v6 v8 v9 v10 s0 s1) →
  (∀ (f : sx_F) (v1 : Int32) (v2 : Int32) (v3 : Int32) (v4 : Int32) (v5 : Int32) (v6 : Int32) (v7 : Int32) (v9 : Int32) (s0 : Int32) (s1 : Int32), (∀ y16 : Int32, y16 = (s0 + s1) → (∀ y17 : Int32, y17 = v9 + 1 → B109 f v1 v2 v3 v4 v5 v6 v7 y16 y17)) → B155 f v1 v2 v3 v4 v5 v6 v7 v9 s0 s1) →
  (∀ (f : sx_F) (v1 : Int32) (v2 : Int32) (v3 : Int32) (v4 : Int32) (v5 : Int32) (v6 : Int32) (v8 : Int32), (vp_in v2 400 ∧ ∀ g18 : sx_F, g18 = sx_u f 17 v2.toNatClampNeg v6 → (vp_in v2 400 ∧ ∀ g19 : sx_F, g19 = sx_u g18 19 v2.toNatClampNeg (4 + v8) → (∀ y20 : Int32, y20 = v2 + 1 → B195 g19 v1 y20 v3 v4 v5 v6))) → B174 f v1 v2 v3 v4 v5 v6 v8) →
  (∀ (f : sx_F) (v1 : Int32) (v2 : Int32) (v3 : Int32) (v4 : Int32) (v5 : Int32) (v6 : Int32), (∀ y21 : Int32, y21 = v6 + 1 → B78 f v1 v2 v3 v4 v5 y21) → B195 f v1 v2 v3 v4 v5 v6) →
  (∀ (f : sx_F) (v1 : Int32) (v2 : Int32) (v3 : Int32), (vp_in v1 13 ∧ (∀ y22 : Int32, y22 = (f 16 v1.toNatClampNeg) → B209 f v1 v2 v3 y22)) → B201 f v1 v2 v3) →
  (∀ (f : sx_F) (v1 : Int32) (v2 : Int32) (v3 : Int32) (v6 : Int32), ((v2 ≤ v6 → (vp_in v1 12 ∧ (((f 15 v1.toNatClampNeg) = (-1) → (vp_in v2 400 ∧ ∀ g25 : sx_F, g25 = sx_u f 17 v2.toNatClampNeg 0 → (vp_in v2 400 ∧ ∀ g26 : sx_F, g26 = sx_u g25 18 v2.toNatClampNeg 24 → (vp_in v2 400 ∧ ∀ g27 : sx_F, g27 = sx_u g26 19 v2.toNatClampNeg 16 → (∀ y28 : Int32, y28 = v2 + 1 → B336 g27 v1 y28))))) ∧ (¬ (f 15 v1.toNatClampNeg) = (-1) → B336 f v1 v2)))) ∧ (¬ v2 ≤ v6 → ((v2 ≤ (v6 + 1) → (vp_in v3 12 ∧ B241 f v1 v2 v3 v6 (f 1 v3.toNatClampNeg))) ∧ (¬ v2 ≤ (v6 + 1) → (vp_in (v6 + 1) 400 ∧ B241 f v1 v2 v3 v6 (f 17 (v6 + 1).toNatClampNeg)))))) → B209 f v1 v2 v3 v6) →
  (∀ (f : sx_F) (v1 : Int32) (v2 : Int32) (v3 : Int32) (v6 : Int32) (s0 : Int32), (vp_in v6 400 ∧ (∀ y30 : Int32, y30 = (s0 - (f 17 v6.toNatClampNeg)) → (P_X7_halvings f y30 (fun r31 => (∀ y33 : Int32, y33 = (6 + (3 * r31)) → (vp_in v6 400 ∧ (((f 19 v6.toNatClampNeg) ≤ y33 → B293 f v1 v2 v3 v6 v6 y33) ∧ (¬ (f 19 v6.toNatClampNeg) ≤ y33 → (vp_in v6 400 ∧ B293 f v1 v2 v3 v6 v6 (f 19 v6.toNatClampNeg)))))))))) → B241 f v1 v2 v3 v6 s0) →
  (∀ (f : sx_F) (v1 : Int32) (v2 : Int32) (v3 : Int32) (v6 : Int32) (s1 : Int32) (s2 : Int32), (vp_in s1 400 ∧ ∀ g35 : sx_F, g35 = sx_u f 18 s1.toNatClampNeg s2 → (∀ y36 : Int32, y36 = v6 + 1 → B209 g35 v1 v2 v3 y36)) → B293 f v1 v2 v3 v6 s1 s2) →
  (∀ (f : sx_F) (v1 : Int32) (v2 : Int32), (vp_in (v1 + 1) 13 ∧ ∀ g37 : sx_F, g37 = sx_u f 16 (v1 + 1).toNatClampNeg v2 → (vp_in v1 12 ∧ ∀ g38 : sx_F, g38 = sx_u g37 20 v1.toNatClampNeg 8 → (vp_in v1 12 ∧ ∀ g39 : sx_F, g39 = sx_u g38 21 v1.toNatClampNeg 8 → (vp_in v1 13 ∧ (∀ y40 : Int32, y40 = (g39 16 v1.toNatClampNeg) → B369 g39 v1 v2 y40))))) → B336 f v1 v2) →
  (∀ (f : sx_F) (v1 : Int32) (v2 : Int32) (v6 : Int32), ((v2 ≤ v6 → (∀ y42 : Int32, y42 = v1 + 1 → B9 f y42)) ∧ (¬ v2 ≤ v6 → (vp_in v1 12 ∧ (vp_in v6 400 ∧ (vp_in v1 12 ∧ ∀ g43 : sx_F, g43 = sx_u f 20 v1.toNatClampNeg ((f 20 v1.toNatClampNeg) + (f 18 v6.toNatClampNeg)) → (vp_in v1 12 ∧ (vp_in v6 400 ∧ (vp_in v1 12 ∧ ∀ g44 : sx_F, g44 = sx_u g43 21 v1.toNatClampNeg ((g43 21 v1.toNatClampNeg) + (g43 19 v6.toNatClampNeg)) → (∀ y45 : Int32, y45 = v6 + 1 → B369 g44 v1 v2 y45))))))))) → B369 f v1 v2 v6) →
  (vp_in 0 13 ∧ ∀ g46 : sx_F, g46 = sx_u f 16 (0 : Int32).toNatClampNeg 0 → B9 g46 0)
def P_X7_silentTo (f : sx_F) (x1 : Int32) (x2 : Int32) (Q : Int32 → Prop) : Prop :=
  ∀ (B5 : Int32 → Int32 → Prop),
  ∀ (B24 : Int32 → Int32 → Int32 → Int32 → Int32 → Prop),
  ∀ (B67 : Int32 → Int32 → Int32 → Int32 → Int32 → Prop),
  (∀ (v3 : Int32) (v4 : Int32), ((v4 < 0 → Q v3) ∧ (¬ v4 < 0 → (P_X7_cell f x1 v4 (fun r2 => B24 v3 v4 r2 0 0)))) → B5 v3 v4) →
  (∀ (v3 : Int32) (v4 : Int32) (v5 : Int32) (v6 : Int32) (v7 : Int32), (vp_in v5 60 ∧ (((f 4 v5.toNatClampNeg) ≤ v7 → (vp_in v4 12 ∧ (∀ y5 : Int32, y5 = (v3 + ((f 1 v4.toNatClampNeg) - v6)) → ((v6 ≤ 0 → (∀ y7 : Int32, y7 = v4 + (-1) → B5 y5 y7)) ∧ (¬ v6 ≤ 0 → Q y5))))) ∧ (¬ (f 4 v5.toNatClampNeg) ≤ v7 → (vp_in ((8 * v5) + v7) 480 ∧ (((f 3 ((8 * v5) + v7).toNatClampNeg) ≤ 0 → B67 v3 v4 v5 v7 v6) ∧ (¬ (f 3 ((8 * v5) + v7).toNatClampNeg) ≤ 0 → (P_X7_filled f v5 (v7 + 1) (fun r9 => B67 v3 v4 v5 v7 r9)))))))) → B24 v3 v4 v5 v6 v7) →
  (∀ (v3 : Int32) (v4 : Int32) (v5 : Int32) (v7 : Int32) (s0 : Int32), (∀ y11 : Int32, y11 = v7 + 1 → B24 v3 v4 v5 s0 y11) → B67 v3 v4 v5 v7 s0) →
  B5 0 x2
def P_X7_silentFrom (f : sx_F) (x1 : Int32) (x2 : Int32) (Q : Int32 → Prop) : Prop :=
  ∀ (B5 : Int32 → Int32 → Prop),
  ∀ (B25 : Int32 → Int32 → Int32 → Int32 → Prop),
  (∀ (v3 : Int32) (v4 : Int32), (((f 0 5) ≤ v4 → Q v3) ∧ (¬ (f 0 5) ≤ v4 → (P_X7_cell f x1 v4 (fun r2 => B25 v3 v4 r2 0)))) → B5 v3 v4) →
  (∀ (v3 : Int32) (v4 : Int32) (v5 : Int32) (v6 : Int32), (vp_in v5 60 ∧ (((f 4 v5.toNatClampNeg) ≤ v6 → (vp_in v4 12 ∧ (∀ y5 : Int32, y5 = (v3 + (f 1 v4.toNatClampNeg)) → (∀ y6 : Int32, y6 = v4 + 1 → B5 y5 y6)))) ∧ (¬ (f 4 v5.toNatClampNeg) ≤ v6 → (vp_in ((8 * v5) + v6) 480 ∧ (((f 3 ((8 * v5) + v6).toNatClampNeg) ≤ 0 → (∀ y8 : Int32, y8 = v6 + 1 → B25 v3 v4 v5 y8)) ∧ (¬ (f 3 ((8 * v5) + v6).toNatClampNeg) ≤ 0 → (P_X7_filled f v5 v6 (fun r9 => Q (v3 + r9))))))))) → B25 v3 v4 v5 v6) →
  B5 0 x2
def P_X7_turnCost (f : sx_F) (x1 : Int32) (x2 : Int32) (Q : Int32 → Prop) : Prop :=
  ∀ (B27 : Int32 → Prop),
  (∀ (s0 : Int32), ((s0 ≤ 0 → Q 0) ∧ (¬ s0 ≤ 0 → Q (100 * s0))) → B27 s0) →
  ((x1 = 5 → B27 0) ∧ (¬ x1 = 5 → (P_X7_silentTo f x1 x2 (fun r3 => (P_X7_silentFrom f x1 (x2 + 1) (fun r5 => B27 ((16 - r3) - r5)))))))
def P_X7_badness (f : sx_F) (x1 : Int32) (x2 : Int32) (Q : Int32 → Prop) : Prop :=
  ∀ (B18 : Int32 → Int32 → Prop),
  ∀ (B32 : Int32 → Prop),
  (∀ (v3 : Int32) (s0 : Int32), ((x2 = 0 → B32 s0) ∧ (¬ x2 = 0 → ((v3 ≤ 0 → B32 s0) ∧ (¬ v3 ≤ 0 → Q 0)))) → B18 v3 s0) →
  (∀ (v4 : Int32), Q (v4 * v4) → B32 v4) →
  (∀ y3 : Int32, y3 = ((f 0 6) - x1) → ((0 ≤ y3 → B18 y3 y3) ∧ (¬ 0 ≤ y3 → B18 y3 (2 * y3))))
def P_X7_breaks (f : sx_F) (x1 : Int32) (Q : sx_F → Prop) : Prop :=
  ∀ (B2 : sx_F → Int32 → Prop),
  ∀ (B53 : sx_F → Int32 → Prop),
  ∀ (B59 : sx_F → Int32 → Int32 → Prop),
  ∀ (B92 : sx_F → Int32 → Int32 → Int32 → Int32 → Int32 → Int32 → Prop),
  ∀ (B151 : sx_F → Int32 → Int32 → Int32 → Int32 → Int32 → Int32 → Int32 → Prop),
  ∀ (B225 : sx_F → Int32 → Int32 → Int32 → Int32 → Int32 → Int32 → Int32 → Int32 → Prop),
  ∀ (B226 : sx_F → Int32 → Int32 → Int32 → Int32 → Int32 → Int32 → Int32 → Int32 → Int32 → Prop),
  ∀ (B282 : sx_F → Int32 → Int32 → Int32 → Int32 → Int32 → Int32 → Int32 → Int32 → Prop),
  ∀ (B286 : sx_F → Int32 → Int32 → Int32 → Int32 → Int32 → Int32 → Int32 → Int32 → Prop),
  ∀ (B287 : sx_F → Int32 → Int32 → Int32 → Int32 → Int32 → Int32 → Int32 → Int32 → Int32 → Prop),
  ∀ (B304 : sx_F → Int32 → Int32 → Int32 → Int32 → Int32 → Int32 → Int32 → Int32 → Int32 → Prop),
  ∀ (B343 : sx_F → Int32 → Int32 → Int32 → Int32 → Int32 → Int32 → Prop),
  ∀ (B373 : sx_F → Int32 → Prop),
  ∀ (B407 : sx_F → Int32 → Int32 → Int32 → Int32 → Prop),
  ∀ (B487 : sx_F → Int32 → Int32 → Prop),
  ∀ (B488 : sx_F → Int32 → Int32 → Int32 → Prop),
  (∀ (f : sx_F) (v2 : Int32), (((f 0 7) ≤ v2 → (∀ y2 : Int32, y2 = ((f 0 20) - 1) → B53 f y2)) ∧ (¬ (f 0 7) ≤ v2 → (vp_in ((6 * (f 0 20)) + v2) 78 ∧ ∀ g3 : sx_F, g3 = sx_u f 22 ((6 * (f 0 20)) + v2).toNatClampNeg 0 → (vp_in ((6 * (g3 0 20)) + v2) 78 ∧ ∀ g4 : sx_F, g4 = sx_u g3 23 ((6 * (g3 0 20)) + v2).toNatClampNeg 0 → (∀ y5 : Int32, y5 = v2 + 1 → B2 g4 y5))))) → B2 f v2) →
  (∀ (f : sx_F) (v2 : Int32), ((v2 < 0 → (∀ g7 : sx_F, g7 = sx_u f 0 31 0 → (∀ g8 : sx_F, g8 = sx_u g7 0 32 0 → B373 g8 0))) ∧ (¬ v2 < 0 → B59 f v2 0)) → B53 f v2) →
  (∀ (f : sx_F) (v2 : Int32) (v3 : Int32), (((f 0 7) ≤ v3 → (∀ y10 : Int32, y10 = v2 + (-1) → B53 f y10)) ∧ (¬ (f 0 7) ≤ v3 → (∀ y11 : Int32, y11 = ((6 * v2) + v3) → (vp_in y11 78 ∧ ∀ g12 : sx_F, g12 = sx_u f 24 y11.toNatClampNeg 0 → B92 g12 v2 v3 y11 0 0 1)))) → B59 f v2 v3) →
  (∀ (f : sx_F) (v2 : Int32) (v3 : Int32) (v4 : Int32) (v5 : Int32) (v6 : Int32) (v7 : Int32), (((f 0 20) < (v2 + v7) → (∀ y14 : Int32, y14 = v3 + 1 → B59 f v2 y14)) ∧ (¬ (f 0 20) < (v2 + v7) → (vp_in ((v2 + v7) - 1) 12 ∧ (∀ y15 : Int32, y15 = (v5 + (f 20 ((v2 + v7) - 1).toNatClampNeg)) → (vp_in ((v2 + v7) - 1) 12 ∧ (∀ y16 : Int32, y16 = (v6 + (f 21 ((v2 + v7) - 1).toNatClampNeg)) → (((v2 + v7) = (f 0 20) → B151 f v2 v3 v4 y15 y16 v7 1) ∧ (¬ (v2 + v7) = (f 0 20) → B151 f v2 v3 v4 y15 y16 v7 0)))))))) → B92 f v2 v3 v4 v5 v6 v7) →
  (∀ (f : sx_F) (v2 : Int32) (v3 : Int32) (v4 : Int32) (v5 : Int32) (v6 : Int32) (v7 : Int32) (s0 : Int32), (¬ (f 0 7) = 0 ∧ (∀ y18 : Int32, y18 = ((6 * (v2 + v7)) + ((v3 + 1) - (v3 + 1) / (f 0 7) * (f 0 7))) → (P_X7_badness f v5 s0 (fun r19 => (vp_in y18 78 ∧ (∀ y21 : Int32, y21 = (r19 + (f 22 y18.toNatClampNeg)) → ((v3 = ((f 0 7) - 1) → ((s0 = 0 → (vp_in ((v2 + v7) - 1) 12 ∧ (P_X7_turnCost f x1 (f 14 ((v2 + v7) - 1).toNatClampNeg) (fun r24 => B226 f v2 v3 v4 v5 v6 v7 y18 y21 r24)))) ∧ (¬ s0 = 0 → B225 f v2 v3 v4 v5 v6 v7 y18 y21))) ∧ (¬ v3 = ((f 0 7) - 1) → B225 f v2 v3 v4 v5 v6 v7 y18 y21)))))))) → B151 f v2 v3 v4 v5 v6 v7 s0) →
  (∀ (f : sx_F) (v2 : Int32) (v3 : Int32) (v4 : Int32) (v5 : Int32) (v6 : Int32) (v7 : Int32) (v9 : Int32) (s0 : Int32), B226 f v2 v3 v4 v5 v6 v7 v9 s0 0 → B225 f v2 v3 v4 v5 v6 v7 v9 s0) →
  (∀ (f : sx_F) (v2 : Int32) (v3 : Int32) (v4 : Int32) (v5 : Int32) (v6 : Int32) (v7 : Int32) (v9 : Int32) (s0 : Int32) (s1 : Int32), (∀ y26 : Int32, y26 = (s0 + s1) → (vp_in v4 78 ∧ (((f 24 v4.toNatClampNeg) = 0 → B282 f v2 v3 v4 v5 v6 v7 v9 y26) ∧ (¬ (f 24 v4.toNatClampNeg) = 0 → (vp_in v4 78 ∧ ((y26 < (f 22 v4.toNatClampNeg) → B282 f v2 v3 v4 v5 v6 v7 v9 y26) ∧ (¬ y26 < (f 22 v4.toNatClampNeg) → (vp_in v4 78 ∧ ((y26 = (f 22 v4.toNatClampNeg) → (vp_in v9 78 ∧ (vp_in v4 78 ∧ (((f 23 v4.toNatClampNeg) ≤ ((f 23 v9.toNatClampNeg) + 1) → B286 f v2 v3 v4 v5 v6 v7 v9 y26) ∧ (¬ (f 23 v4.toNatClampNeg) ≤ ((f 23 v9.toNatClampNeg) + 1) → B282 f v2 v3 v4 v5 v6 v7 v9 y26))))) ∧ (¬ y26 = (f 22 v4.toNatClampNeg) → B286 f v2 v3 v4 v5 v6 v7 v9 y26)))))))))) → B226 f v2 v3 v4 v5 v6 v7 v9 s0 s1) →
  (∀ (f : sx_F) (v2 : Int32) (v3 : Int32) (v4 : Int32) (v5 : Int32) (v6 : Int32) (v7 : Int32) (v9 : Int32) (v10 : Int32), B287 f v2 v3 v4 v5 v6 v7 v9 v10 1 → B282 f v2 v3 v4 v5 v6 v7 v9 v10) →
  (∀ (f : sx_F) (v2 : Int32) (v3 : Int32) (v4 : Int32) (v5 : Int32) (v6 : Int32) (v7 : Int32) (v9 : Int32) (v10 : Int32), B287 f v2 v3 v4 v5 v6 v7 v9 v10 0 → B286 f v2 v3 v4 v5 v6 v7 v9 v10) →
  (∀ (f : sx_F) (v2 : Int32) (v3 : Int32) (v4 : Int32) (v5 : Int32) (v6 : Int32) (v7 : Int32) (v9 : Int32) (v10 : Int32) (s0 : Int32), ((v7 = 1 → B304 f v2 v3 v4 v5 v6 v7 v9 v10 s0) ∧ (¬ v7 = 1 → (((f 0 6) < v6 → B343 f v2 v3 v4 v5 v6 v7) ∧ (¬ (f 0 6) < v6 → B304 f v2 v3 v4 v5 v6 v7 v9 v10 s0)))) → B287 f v2 v3 v4 v5 v6 v7 v9 v10 s0) →
  (∀ (f : sx_F) (v2 : Int32) (v3 : Int32) (v4 : Int32) (v5 : Int32) (v6 : Int32) (v7 : Int32) (v9 : Int32) (v10 : Int32) (v11 : Int32), ((v11 = 0 → B343 f v2 v3 v4 v5 v6 v7) ∧ (¬ v11 = 0 → (vp_in v4 78 ∧ ∀ g34 : sx_F, g34 = sx_u f 24 v4.toNatClampNeg v7 → (vp_in v4 78 ∧ ∀ g35 : sx_F, g35 = sx_u g34 22 v4.toNatClampNeg v10 → (vp_in v9 78 ∧ (vp_in v4 78 ∧ ∀ g36 : sx_F, g36 = sx_u g35 23 v4.toNatClampNeg ((g35 23 v9.toNatClampNeg) + 1) → B343 g36 v2 v3 v4 v5 v6 v7)))))) → B304 f v2 v3 v4 v5 v6 v7 v9 v10 v11) →
  (∀ (f : sx_F) (v2 : Int32) (v3 : Int32) (v4 : Int32) (v5 : Int32) (v6 : Int32) (v7 : Int32), (∀ y37 : Int32, y37 = v7 + 1 → B92 f v2 v3 v4 v5 v6 y37) → B343 f v2 v3 v4 v5 v6 v7) →
  (∀ (f : sx_F) (v2 : Int32), (((f 0 20) ≤ v2 → Q f) ∧ (¬ (f 0 20) ≤ v2 → (¬ (f 0 7) = 0 ∧ (∀ y39 : Int32, y39 = ((f 0 31) - (f 0 31) / (f 0 7) * (f 0 7)) → (vp_in ((6 * v2) + y39) 78 ∧ (∀ y40 : Int32, y40 = (f 24 ((6 * v2) + y39).toNatClampNeg) → B407 f v2 y39 y40 v2)))))) → B373 f v2) →
  (∀ (f : sx_F) (v2 : Int32) (v3 : Int32) (v4 : Int32) (v5 : Int32), (((v2 + v4) ≤ v5 → (∀ y42 : Int32, y42 = (v2 + v4) → (∀ g43 : sx_F, g43 = sx_u f 0 31 ((f 0 31) + 1) → ((v3 = ((g43 0 7) - 1) → (((g43 0 20) ≤ y42 → B487 g43 y42 (g43 0 32)) ∧ (¬ (g43 0 20) ≤ y42 → (vp_in (y42 - 1) 12 ∧ (P_X7_turnCost g43 x1 (g43 14 (y42 - 1).toNatClampNeg) (fun r46 => B488 g43 y42 (g43 0 32) r46)))))) ∧ (¬ v3 = ((g43 0 7) - 1) → B487 g43 y42 (g43 0 32)))))) ∧ (¬ (v2 + v4) ≤ v5 → (vp_in v5 12 ∧ ∀ g48 : sx_F, g48 = sx_u f 25 v5.toNatClampNeg (f 0 31) → (∀ y49 : Int32, y49 = v5 + 1 → B407 g48 v2 v3 v4 y49)))) → B407 f v2 v3 v4 v5) →
  (∀ (f : sx_F) (v2 : Int32) (s1 : Int32), B488 f v2 s1 0 → B487 f v2 s1) →
  (∀ (f : sx_F) (v2 : Int32) (s1 : Int32) (s2 : Int32), (∀ g50 : sx_F, g50 = sx_u f 0 32 (s1 + s2) → B373 g50 v2) → B488 f v2 s1 s2) →
  B2 f 0
def P_X7_lays (f : sx_F) (x1 : Int32) (Q : sx_F → Prop) : Prop :=
  (P_X7_laysItems f x1 (fun g1 => (P_X7_laysSprings g1 (fun g2 => (P_X7_breaks g2 x1 (fun g3 => Q g3))))))
def P_X7_itemWith (f : sx_F) (x1 : Int32) (Q : Int32 → Prop) : Prop :=
  ∀ (B2 : Int32 → Prop),
  (∀ (v2 : Int32), (vp_in v2 12 ∧ ((x1 ≤ (f 14 v2.toNatClampNeg) → Q v2) ∧ (¬ x1 ≤ (f 14 v2.toNatClampNeg) → (∀ y2 : Int32, y2 = v2 + 1 → B2 y2)))) → B2 v2) →
  B2 0
def P_X7_items (f : sx_F) (x1 : Int32) (Q : Int32 → sx_F → Prop) : Prop :=
  (P_X7_isBook f x1 (fun r1 => (P_X7_goes f r1 1 1 (fun r4 g3 => ((r4 = 0 → Q 0 g3) ∧ (¬ r4 = 0 → (P_X7_laysItems g3 x1 (fun g6 => Q (g6 0 20) g6))))))))
def P_X7_itemOf (f : sx_F) (x1 : Int32) (x2 : Int32) (Q : Int32 → sx_F → Prop) : Prop :=
  ∀ (B20 : sx_F → Prop),
  ∀ (B21 : sx_F → Int32 → Prop),
  (∀ (f : sx_F), B21 f 0 → B20 f) →
  (∀ (f : sx_F) (s1 : Int32), (P_X7_goes f s1 1 1 (fun r2 g1 => ((r2 = 0 → Q 0 g1) ∧ (¬ r2 = 0 → (P_X7_laysItems g1 x1 (fun g4 => (P_X7_itemWith g4 x2 (fun r5 => Q r5 g4)))))))) → B21 f s1) →
  (P_X7_isBook f x1 (fun r7 => ((r7 = 0 → B20 f) ∧ (¬ r7 = 0 → (P_X7_isBar f x2 (fun r10 => ((r10 = 0 → B20 f) ∧ (¬ r10 = 0 → B21 f 1))))))))
def P_X7_cue (f : sx_F) (x1 : Int32) (x2 : Int32) (Q : Int32 → sx_F → Prop) : Prop :=
  ∀ (B20 : sx_F → Prop),
  ∀ (B21 : sx_F → Int32 → Prop),
  (∀ (f : sx_F), B21 f 0 → B20 f) →
  (∀ (f : sx_F) (s1 : Int32), (P_X7_goes f s1 1 1 (fun r2 g1 => ((r2 = 0 → Q 0 g1) ∧ (¬ r2 = 0 → (P_X7_laysItems g1 x1 (fun g4 => (P_X7_itemWith g4 x2 (fun r5 => (vp_in r5 12 ∧ (∀ y7 : Int32, y7 = (g4 15 r5.toNatClampNeg) → ((y7 = x1 → Q (-1) g4) ∧ (¬ y7 = x1 → Q y7 g4)))))))))))) → B21 f s1) →
  (P_X7_isInstrument f x1 (fun r9 => ((r9 = 0 → B20 f) ∧ (¬ r9 = 0 → (P_X7_isBar f x2 (fun r12 => ((r12 = 0 → B20 f) ∧ (¬ r12 = 0 → B21 f 1))))))))
def P_X7_width (f : sx_F) (x1 : Int32) (x2 : Int32) (Q : Int32 → sx_F → Prop) : Prop :=
  ∀ (B14 : sx_F → Int32 → Prop),
  ∀ (B37 : sx_F → Prop),
  ∀ (B38 : sx_F → Int32 → Prop),
  (∀ (f : sx_F) (v3 : Int32), ((v3 = 0 → B37 f) ∧ (¬ v3 = 0 → (P_X7_in f x2 0 ((f 0 20) - 1) (fun r2 => ((r2 = 0 → B37 f) ∧ (¬ r2 = 0 → B38 f 1)))))) → B14 f v3) →
  (∀ (f : sx_F), B38 f 0 → B37 f) →
  (∀ (f : sx_F) (s1 : Int32), (P_X7_goes f s1 1 1 (fun r6 g5 => ((r6 = 0 → Q 0 g5) ∧ (¬ r6 = 0 → (vp_in x2 12 ∧ Q (g5 20 x2.toNatClampNeg) g5))))) → B38 f s1) →
  (P_X7_isBook f x1 (fun r8 => ((r8 = 0 → B14 f r8) ∧ (¬ r8 = 0 → (P_X7_lays f x1 (fun g11 => B14 g11 r8))))))
def P_X7_lines (f : sx_F) (x1 : Int32) (Q : Int32 → sx_F → Prop) : Prop :=
  (P_X7_isBook f x1 (fun r1 => (P_X7_goes f r1 1 1 (fun r4 g3 => ((r4 = 0 → Q 0 g3) ∧ (¬ r4 = 0 → (P_X7_lays g3 x1 (fun g6 => Q (g6 0 31) g6))))))))
def P_X7_lineOf (f : sx_F) (x1 : Int32) (x2 : Int32) (Q : Int32 → sx_F → Prop) : Prop :=
  ∀ (B20 : sx_F → Prop),
  ∀ (B21 : sx_F → Int32 → Prop),
  (∀ (f : sx_F), B21 f 0 → B20 f) →
  (∀ (f : sx_F) (s1 : Int32), (P_X7_goes f s1 1 1 (fun r2 g1 => ((r2 = 0 → Q 0 g1) ∧ (¬ r2 = 0 → (P_X7_lays g1 x1 (fun g4 => (P_X7_itemWith g4 x2 (fun r5 => (vp_in r5 12 ∧ Q (g4 25 r5.toNatClampNeg) g4))))))))) → B21 f s1) →
  (P_X7_isBook f x1 (fun r7 => ((r7 = 0 → B20 f) ∧ (¬ r7 = 0 → (P_X7_isBar f x2 (fun r10 => ((r10 = 0 → B20 f) ∧ (¬ r10 = 0 → B21 f 1))))))))
def P_X7_cost (f : sx_F) (x1 : Int32) (Q : Int32 → sx_F → Prop) : Prop :=
  (P_X7_isBook f x1 (fun r1 => (P_X7_goes f r1 1 1 (fun r4 g3 => ((r4 = 0 → Q 0 g3) ∧ (¬ r4 = 0 → (P_X7_lays g3 x1 (fun g6 => (((g6 0 20) = 0 → Q 0 g6) ∧ (¬ (g6 0 20) = 0 → (vp_in 0 78 ∧ Q (g6 22 (0 : Int32).toNatClampNeg) g6)))))))))))
def P_X7_costByAll (f : sx_F) (x1 : Int32) (Q : Int32 → sx_F → Prop) : Prop :=
  (P_X7_cost f x1 (fun r2 g1 => Q r2 g1))
def P_X7_turns (f : sx_F) (x1 : Int32) (Q : Int32 → sx_F → Prop) : Prop :=
  (P_X7_isBook f x1 (fun r1 => (P_X7_goes f r1 1 1 (fun r4 g3 => ((r4 = 0 → Q 0 g3) ∧ (¬ r4 = 0 → (P_X7_lays g3 x1 (fun g6 => Q (g6 0 32) g6))))))))
def P_X7_springAt (f : sx_F) (x1 : Int32) (x2 : Int32) (Q : Int32 → Prop) : Prop :=
  ∀ (B14 : Int32 → Int32 → Prop),
  ∀ (B51 : Int32 → Int32 → Prop),
  (∀ (v3 : Int32) (v4 : Int32), (vp_in (v3 + 1) 13 ∧ (((f 16 (v3 + 1).toNatClampNeg) ≤ v4 → Q (-1)) ∧ (¬ (f 16 (v3 + 1).toNatClampNeg) ≤ v4 → (vp_in v3 12 ∧ (((f 13 v3.toNatClampNeg) = x1 → (vp_in v4 400 ∧ (((f 17 v4.toNatClampNeg) = x2 → Q v4) ∧ (¬ (f 17 v4.toNatClampNeg) = x2 → B51 v3 v4)))) ∧ (¬ (f 13 v3.toNatClampNeg) = x1 → B51 v3 v4)))))) → B14 v3 v4) →
  (∀ (v3 : Int32) (v4 : Int32), (∀ y4 : Int32, y4 = v4 + 1 → B14 v3 y4) → B51 v3 v4) →
  (P_X7_itemWith f x1 (fun r5 => (vp_in r5 13 ∧ (∀ y7 : Int32, y7 = (f 16 r5.toNatClampNeg) → B14 r5 y7))))
def P_X7_placeOf (f : sx_F) (x1 : Int32) (x2 : Int32) (Q : Int32 → Prop) : Prop :=
  ∀ (B35 : Int32 → Int32 → Int32 → Int32 → Int32 → Int32 → Int32 → Int32 → Int32 → Prop),
  ∀ (B68 : Int32 → Int32 → Int32 → Int32 → Int32 → Int32 → Int32 → Int32 → Int32 → Prop),
  ∀ (B69 : Int32 → Int32 → Int32 → Int32 → Int32 → Int32 → Int32 → Int32 → Int32 → Int32 → Prop),
  ∀ (B91 : Int32 → Int32 → Int32 → Int32 → Int32 → Int32 → Int32 → Int32 → Int32 → Int32 → Prop),
  ∀ (B103 : Int32 → Int32 → Int32 → Int32 → Int32 → Int32 → Int32 → Int32 → Int32 → Int32 → Prop),
  ∀ (B172 : Int32 → Int32 → Int32 → Int32 → Int32 → Int32 → Int32 → Int32 → Int32 → Int32 → Int32 → Prop),
  ∀ (B194 : Int32 → Int32 → Int32 → Int32 → Int32 → Int32 → Int32 → Int32 → Int32 → Int32 → Int32 → Prop),
  ∀ (B203 : Int32 → Int32 → Int32 → Int32 → Int32 → Int32 → Int32 → Int32 → Int32 → Prop),
  ∀ (B264 : Int32 → Int32 → Int32 → Int32 → Int32 → Int32 → Prop),
  ∀ (B298 : Int32 → Int32 → Int32 → Int32 → Int32 → Int32 → Prop),
  (∀ (v3 : Int32) (v4 : Int32) (v5 : Int32) (v6 : Int32) (v7 : Int32) (v8 : Int32) (v9 : Int32) (v10 : Int32) (v11 : Int32), (((f 0 20) ≤ v11 → (∀ y2 : Int32, y2 = (((8 * v10) + 4) + v5) → (∀ y3 : Int32, y3 = (((f 0 6) - (8 * v9)) - v7) → ((y3 ≤ 0 → B264 v5 v6 v7 v8 y2 y3) ∧ (¬ y3 ≤ 0 → ((((f 0 31) - 1) ≤ v4 → B264 v5 v6 v7 v8 y2 y3) ∧ (¬ ((f 0 31) - 1) ≤ v4 → (¬ v7 = 0 ∧ Q (y2 + ((y3 * v5) / v7)))))))))) ∧ (¬ (f 0 20) ≤ v11 → (vp_in v11 12 ∧ (((f 25 v11.toNatClampNeg) = v4 → ((v3 ≤ v11 → B68 v3 v4 v5 v6 v7 v8 v9 v11 v10) ∧ (¬ v3 ≤ v11 → B69 v3 v4 v5 v6 v7 v8 v9 v11 v10 1))) ∧ (¬ (f 25 v11.toNatClampNeg) = v4 → B68 v3 v4 v5 v6 v7 v8 v9 v11 v10))))) → B35 v3 v4 v5 v6 v7 v8 v9 v10 v11) →
  (∀ (v3 : Int32) (v4 : Int32) (v5 : Int32) (v6 : Int32) (v7 : Int32) (v8 : Int32) (v9 : Int32) (v11 : Int32) (s0 : Int32), B69 v3 v4 v5 v6 v7 v8 v9 v11 s0 0 → B68 v3 v4 v5 v6 v7 v8 v9 v11 s0) →
  (∀ (v3 : Int32) (v4 : Int32) (v5 : Int32) (v6 : Int32) (v7 : Int32) (v8 : Int32) (v9 : Int32) (v11 : Int32) (s0 : Int32) (s1 : Int32), (∀ y8 : Int32, y8 = (s0 + s1) → (vp_in v11 12 ∧ (((f 25 v11.toNatClampNeg) = v4 → B91 v3 v4 v5 v6 v7 v8 y8 v11 v9 1) ∧ (¬ (f 25 v11.toNatClampNeg) = v4 → B91 v3 v4 v5 v6 v7 v8 y8 v11 v9 0)))) → B69 v3 v4 v5 v6 v7 v8 v9 v11 s0 s1) →
  (∀ (v3 : Int32) (v4 : Int32) (v5 : Int32) (v6 : Int32) (v7 : Int32) (v8 : Int32) (v10 : Int32) (v11 : Int32) (s0 : Int32) (s1 : Int32), (∀ y10 : Int32, y10 = (s0 + s1) → (vp_in v11 13 ∧ (∀ y11 : Int32, y11 = (f 16 v11.toNatClampNeg) → B103 v3 v4 v5 v6 v7 v8 y10 v10 v11 y11))) → B91 v3 v4 v5 v6 v7 v8 v10 v11 s0 s1) →
  (∀ (v3 : Int32) (v4 : Int32) (v5 : Int32) (v6 : Int32) (v7 : Int32) (v8 : Int32) (v9 : Int32) (v10 : Int32) (v11 : Int32) (v12 : Int32), (vp_in (v11 + 1) 13 ∧ (((f 16 (v11 + 1).toNatClampNeg) ≤ v12 → B203 v3 v4 v5 v6 v7 v8 v9 v10 v11) ∧ (¬ (f 16 (v11 + 1).toNatClampNeg) ≤ v12 → (vp_in v11 12 ∧ (((f 25 v11.toNatClampNeg) = v4 → (vp_in v12 400 ∧ (∀ y14 : Int32, y14 = (v7 + (f 18 v12.toNatClampNeg)) → (vp_in v12 400 ∧ (∀ y15 : Int32, y15 = (v8 + (f 19 v12.toNatClampNeg)) → ((x2 ≤ v12 → B172 v3 v4 v6 y14 y15 v9 v10 v11 v12 v5 0) ∧ (¬ x2 ≤ v12 → (vp_in v12 400 ∧ B172 v3 v4 v6 y14 y15 v9 v10 v11 v12 v5 (f 18 v12.toNatClampNeg))))))))) ∧ (¬ (f 25 v11.toNatClampNeg) = v4 → B203 v3 v4 v5 v6 v7 v8 v9 v10 v11)))))) → B103 v3 v4 v5 v6 v7 v8 v9 v10 v11 v12) →
  (∀ (v3 : Int32) (v4 : Int32) (v6 : Int32) (v7 : Int32) (v8 : Int32) (v9 : Int32) (v10 : Int32) (v11 : Int32) (v12 : Int32) (s0 : Int32) (s1 : Int32), (∀ y17 : Int32, y17 = (s0 + s1) → ((x2 ≤ v12 → B194 v3 v4 y17 v7 v8 v9 v10 v11 v12 v6 0) ∧ (¬ x2 ≤ v12 → (vp_in v12 400 ∧ B194 v3 v4 y17 v7 v8 v9 v10 v11 v12 v6 (f 19 v12.toNatClampNeg))))) → B172 v3 v4 v6 v7 v8 v9 v10 v11 v12 s0 s1) →
  (∀ (v3 : Int32) (v4 : Int32) (v5 : Int32) (v7 : Int32) (v8 : Int32) (v9 : Int32) (v10 : Int32) (v11 : Int32) (v12 : Int32) (s0 : Int32) (s1 : Int32), (∀ y19 : Int32, y19 = (s0 + s1) → (∀ y20 : Int32, y20 = v12 + 1 → B103 v3 v4 v5 y19 v7 v8 v9 v10 v11 y20)) → B194 v3 v4 v5 v7 v8 v9 v10 v11 v12 s0 s1) →
  (∀ (v3 : Int32) (v4 : Int32) (v5 : Int32) (v6 : Int32) (v7 : Int32) (v8 : Int32) (v9 : Int32) (v10 : Int32) (v11 : Int32), (∀ y21 : Int32, y21 = v11 + 1 → B35 v3 v4 v5 v6 v7 v8 v9 v10 y21) → B203 v3 v4 v5 v6 v7 v8 v9 v10 v11) →
  (∀ (v5 : Int32) (v6 : Int32) (v7 : Int32) (v8 : Int32) (v11 : Int32) (v12 : Int32), ((0 ≤ v12 → Q v11) ∧ (¬ 0 ≤ v12 → ((v7 ≤ v8 → Q v11) ∧ (¬ v7 ≤ v8 → (((v7 - v8) ≤ (-v12) → B298 v5 v6 v7 v8 v11 (v7 - v8)) ∧ (¬ (v7 - v8) ≤ (-v12) → B298 v5 v6 v7 v8 v11 (-v12))))))) → B264 v5 v6 v7 v8 v11 v12) →
  (∀ (v5 : Int32) (v6 : Int32) (v7 : Int32) (v8 : Int32) (v11 : Int32) (s0 : Int32), (¬ (v7 - v8) = 0 ∧ Q (v11 - ((s0 * (v5 - v6)) / (v7 - v8)))) → B298 v5 v6 v7 v8 v11 s0) →
  (P_X7_itemWith f x1 (fun r25 => (vp_in r25 12 ∧ (∀ y27 : Int32, y27 = (f 25 r25.toNatClampNeg) → B35 r25 y27 0 0 0 0 0 0 0))))
def P_X7_place (f : sx_F) (x1 : Int32) (x2 : Int32) (x3 : Int32) (Q : Int32 → sx_F → Prop) : Prop :=
  ∀ (B19 : sx_F → Prop),
  ∀ (B20 : sx_F → Int32 → Prop),
  ∀ (B43 : sx_F → Int32 → Prop),
  ∀ (B55 : sx_F → Int32 → Int32 → Prop),
  (∀ (f : sx_F), B20 f 0 → B19 f) →
  (∀ (f : sx_F) (s0 : Int32), ((s0 = 0 → B43 f (-1)) ∧ (¬ s0 = 0 → (P_X7_lays f x1 (fun g2 => (P_X7_springAt g2 x2 x3 (fun r3 => B43 g2 r3)))))) → B20 f s0) →
  (∀ (f : sx_F) (v5 : Int32), ((v5 = (-1) → B55 f v5 0) ∧ (¬ v5 = (-1) → B55 f v5 1)) → B43 f v5) →
  (∀ (f : sx_F) (v5 : Int32) (s1 : Int32), (P_X7_goes f s1 1 1 (fun r7 g6 => ((r7 = 0 → Q 0 g6) ∧ (¬ r7 = 0 → (P_X7_placeOf g6 x2 v5 (fun r9 => Q r9 g6)))))) → B55 f v5 s1) →
  (P_X7_isBook f x1 (fun r11 => ((r11 = 0 → B19 f) ∧ (¬ r11 = 0 → (P_X7_isBar f x2 (fun r14 => ((r14 = 0 → B19 f) ∧ (¬ r14 = 0 → B20 f 1))))))))
def P_X7_copies (f : sx_F)  (Q : Int32 → sx_F → Prop) : Prop :=
  (∀ g1 : sx_F, g1 = sx_u f 0 33 0 → Q (g1 0 11) g1)
def P_X7_deskOf (f : sx_F) (x1 : Int32) (Q : Int32 → sx_F → Prop) : Prop :=
  (P_X7_isCopy f x1 (fun r1 => (P_X7_goes f r1 1 1 (fun r4 g3 => ((r4 = 0 → Q 0 g3) ∧ (¬ r4 = 0 → (vp_in x1 16 ∧ Q (g3 7 x1.toNatClampNeg) g3)))))))
def P_X7_has (f : sx_F) (x1 : Int32) (x2 : Int32) (Q : Int32 → sx_F → Prop) : Prop :=
  ∀ (B21 : sx_F → Prop),
  ∀ (B22 : sx_F → Int32 → Prop),
  (∀ (f : sx_F), B22 f 0 → B21 f) →
  (∀ (f : sx_F) (s1 : Int32), (P_X7_goes f s1 1 1 (fun r2 g1 => ((r2 = 0 → Q 0 g1) ∧ (¬ r2 = 0 → (vp_in x1 16 ∧ (((g1 7 x1.toNatClampNeg) = (-1) → (vp_in x1 16 ∧ (P_X7_cell g1 (g1 6 x1.toNatClampNeg) x2 (fun r5 => (vp_in r5 60 ∧ Q (g1 5 r5.toNatClampNeg) g1))))) ∧ (¬ (g1 7 x1.toNatClampNeg) = (-1) → (vp_in ((12 * x1) + x2) 192 ∧ Q (g1 8 ((12 * x1) + x2).toNatClampNeg) g1)))))))) → B22 f s1) →
  (P_X7_isCopy f x1 (fun r7 => ((r7 = 0 → B21 f) ∧ (¬ r7 = 0 → (P_X7_isBar f x2 (fun r10 => ((r10 = 0 → B21 f) ∧ (¬ r10 = 0 → B22 f 1))))))))
def P_X7_owed (f : sx_F) (x1 : Int32) (Q : Int32 → sx_F → Prop) : Prop :=
  (P_X7_isCopy f x1 (fun r1 => (P_X7_goes f r1 1 1 (fun r4 g3 => ((r4 = 0 → Q 0 g3) ∧ (¬ r4 = 0 → (P_X7_owedBy g3 x1 (fun r6 => Q r6 g3))))))))
def P_X7_markOf (f : sx_F) (x1 : Int32) (x2 : Int32) (x3 : Int32) (Q : Int32 → sx_F → Prop) : Prop :=
  ∀ (B28 : sx_F → Prop),
  ∀ (B29 : sx_F → Int32 → Prop),
  (∀ (f : sx_F), B29 f 0 → B28 f) →
  (∀ (f : sx_F) (s0 : Int32), (P_X7_goes f s0 1 1 (fun r2 g1 => ((r2 = 0 → Q 0 g1) ∧ (¬ r2 = 0 → (P_X7_cell g1 x2 x3 (fun r4 => (vp_in ((60 * x1) + r4) 360 ∧ Q (g1 9 ((60 * x1) + r4).toNatClampNeg) g1))))))) → B29 f s0) →
  (P_X7_in f x1 0 5 (fun r6 => ((r6 = 0 → B28 f) ∧ (¬ r6 = 0 → (P_X7_isInstrument f x2 (fun r9 => ((r9 = 0 → B28 f) ∧ (¬ r9 = 0 → (P_X7_isBar f x3 (fun r12 => ((r12 = 0 → B28 f) ∧ (¬ r12 = 0 → B29 f 1))))))))))))
def P_X7_oldMarks (f : sx_F) (x1 : Int32) (Q : Int32 → sx_F → Prop) : Prop :=
  ∀ (B18 : sx_F → Int32 → Int32 → Int32 → Prop),
  ∀ (B71 : sx_F → Int32 → Int32 → Int32 → Prop),
  ∀ (B72 : sx_F → Int32 → Int32 → Int32 → Int32 → Prop),
  (∀ (f : sx_F) (v2 : Int32) (v3 : Int32) (v4 : Int32), ((v3 = 0 → Q v2 f) ∧ (¬ v3 = 0 → ((60 ≤ v4 → Q v2 f) ∧ (¬ 60 ≤ v4 → (vp_in ((60 * x1) + v4) 360 ∧ (((f 9 ((60 * x1) + v4).toNatClampNeg) ≤ 0 → B71 f v3 v4 v2) ∧ (¬ (f 9 ((60 * x1) + v4).toNatClampNeg) ≤ 0 → (vp_in ((60 * x1) + v4) 360 ∧ (vp_in v4 60 ∧ (((f 10 ((60 * x1) + v4).toNatClampNeg) = (f 5 v4.toNatClampNeg) → B71 f v3 v4 v2) ∧ (¬ (f 10 ((60 * x1) + v4).toNatClampNeg) = (f 5 v4.toNatClampNeg) → B72 f v3 v4 v2 1))))))))))) → B18 f v2 v3 v4) →
  (∀ (f : sx_F) (v3 : Int32) (v4 : Int32) (s0 : Int32), B72 f v3 v4 s0 0 → B71 f v3 v4 s0) →
  (∀ (f : sx_F) (v3 : Int32) (v4 : Int32) (s0 : Int32) (s1 : Int32), (∀ y5 : Int32, y5 = (s0 + s1) → (∀ y6 : Int32, y6 = v4 + 1 → B18 f y5 v3 y6)) → B72 f v3 v4 s0 s1) →
  (P_X7_in f x1 0 5 (fun r7 => (P_X7_goes f r7 1 1 (fun r10 g9 => B18 g9 0 r10 0))))
def P_X7_clashes (f : sx_F) (x1 : Int32) (Q : Int32 → sx_F → Prop) : Prop :=
  ∀ (B16 : sx_F → Int32 → Int32 → Int32 → Prop),
  ∀ (B40 : sx_F → Int32 → Int32 → Int32 → Int32 → Int32 → Prop),
  ∀ (B55 : sx_F → Int32 → Int32 → Int32 → Int32 → Int32 → Int32 → Prop),
  ∀ (B110 : sx_F → Int32 → Int32 → Int32 → Int32 → Int32 → Int32 → Prop),
  ∀ (B111 : sx_F → Int32 → Int32 → Int32 → Int32 → Int32 → Int32 → Int32 → Prop),
  (∀ (f : sx_F) (v2 : Int32) (v3 : Int32) (v4 : Int32), ((v3 = 0 → Q v2 f) ∧ (¬ v3 = 0 → (((f 0 5) ≤ v4 → Q v2 f) ∧ (¬ (f 0 5) ≤ v4 → (P_X7_cell f x1 v4 (fun r3 => B40 f v2 v3 v4 r3 0)))))) → B16 f v2 v3 v4) →
  (∀ (f : sx_F) (v2 : Int32) (v3 : Int32) (v4 : Int32) (v5 : Int32) (v6 : Int32), (vp_in v5 60 ∧ (((f 4 v5.toNatClampNeg) ≤ v6 → (∀ y6 : Int32, y6 = v4 + 1 → B16 f v2 v3 y6)) ∧ (¬ (f 4 v5.toNatClampNeg) ≤ v6 → B55 f v2 v3 v4 v5 v6 0))) → B40 f v2 v3 v4 v5 v6) →
  (∀ (f : sx_F) (v2 : Int32) (v3 : Int32) (v4 : Int32) (v5 : Int32) (v6 : Int32) (v7 : Int32), ((6 ≤ v7 → (∀ y8 : Int32, y8 = v6 + 1 → B40 f v2 v3 v4 v5 y8)) ∧ (¬ 6 ≤ v7 → (P_X7_bowing f v7 v5 v6 (fun r9 => (P_X7_bowing f (v7 + 1) v5 v6 (fun r11 => ((r9 ≤ 0 → B110 f v3 v4 v5 v6 v7 v2) ∧ (¬ r9 ≤ 0 → ((r11 ≤ 0 → B110 f v3 v4 v5 v6 v7 v2) ∧ (¬ r11 ≤ 0 → ((r9 = r11 → B110 f v3 v4 v5 v6 v7 v2) ∧ (¬ r9 = r11 → B111 f v3 v4 v5 v6 v7 v2 1)))))))))))) → B55 f v2 v3 v4 v5 v6 v7) →
  (∀ (f : sx_F) (v3 : Int32) (v4 : Int32) (v5 : Int32) (v6 : Int32) (v7 : Int32) (s0 : Int32), B111 f v3 v4 v5 v6 v7 s0 0 → B110 f v3 v4 v5 v6 v7 s0) →
  (∀ (f : sx_F) (v3 : Int32) (v4 : Int32) (v5 : Int32) (v6 : Int32) (v7 : Int32) (s0 : Int32) (s1 : Int32), (∀ y16 : Int32, y16 = (s0 + s1) → (∀ y17 : Int32, y17 = v7 + 2 → B55 f y16 v3 v4 v5 v6 y17)) → B111 f v3 v4 v5 v6 v7 s0 s1) →
  (P_X7_isInstrument f x1 (fun r18 => (P_X7_goes f r18 1 1 (fun r21 g20 => B16 g20 0 r21 0))))
def P_X7_concerts (f : sx_F)  (Q : Int32 → sx_F → Prop) : Prop :=
  (∀ g1 : sx_F, g1 = sx_u f 0 33 0 → Q (g1 0 12) g1)
end
