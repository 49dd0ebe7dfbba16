-- ===== PART A: goes FIRST, ahead of the names: the tables' words, and 'selects' of the private methods out of them =====
/-- a private method of a class that the tables say can be made, by its rows of tables_1 -/
def lw_okq (q : MethodName × Nat) : Prop := (q.1.cls ≠ "java/lang/invoke/MethodHandle" ∧ q.1.cls ≠ "java/lang/invoke/VarHandle") ∧ Cond.instantiable q.1.cls q.2 ∈ tables_1 ∧ Cond.privateMethod q.1 ∈ tables_1 ∧ Cond.instanceMethod q.1 ∈ tables_1
theorem lw_p0 : lw_okq (⟨"ForgeHeats$JobText", "read", "(I)Z"⟩, 9) := ⟨⟨by decide +kernel, by decide +kernel⟩, List.mem_of_getElem? (i := 229) (by decide +kernel), List.mem_of_getElem? (i := 310) (by decide +kernel), List.mem_of_getElem? (i := 311) (by decide +kernel)⟩
theorem lw_p1 : lw_okq (⟨"ForgeHeats$JobText", "beginPart", "(I)V"⟩, 9) := ⟨⟨by decide +kernel, by decide +kernel⟩, List.mem_of_getElem? (i := 229) (by decide +kernel), List.mem_of_getElem? (i := 314) (by decide +kernel), List.mem_of_getElem? (i := 315) (by decide +kernel)⟩
theorem lw_p2 : lw_okq (⟨"ForgeHeats$JobText", "readEnd", "(I)Z"⟩, 9) := ⟨⟨by decide +kernel, by decide +kernel⟩, List.mem_of_getElem? (i := 229) (by decide +kernel), List.mem_of_getElem? (i := 318) (by decide +kernel), List.mem_of_getElem? (i := 319) (by decide +kernel)⟩
theorem lw_p3 : lw_okq (⟨"ForgeHeats$JobText", "readSeparator", "(I)Z"⟩, 9) := ⟨⟨by decide +kernel, by decide +kernel⟩, List.mem_of_getElem? (i := 229) (by decide +kernel), List.mem_of_getElem? (i := 322) (by decide +kernel), List.mem_of_getElem? (i := 323) (by decide +kernel)⟩
theorem lw_p4 : lw_okq (⟨"ForgeHeats$JobText", "readMoreDue", "(I)Z"⟩, 9) := ⟨⟨by decide +kernel, by decide +kernel⟩, List.mem_of_getElem? (i := 229) (by decide +kernel), List.mem_of_getElem? (i := 326) (by decide +kernel), List.mem_of_getElem? (i := 327) (by decide +kernel)⟩
theorem lw_p5 : lw_okq (⟨"ForgeHeats", "shareMade", "()D"⟩, 5) := ⟨⟨by decide +kernel, by decide +kernel⟩, List.mem_of_getElem? (i := 18) (by decide +kernel), List.mem_of_getElem? (i := 334) (by decide +kernel), List.mem_of_getElem? (i := 335) (by decide +kernel)⟩
theorem lw_p6 : lw_okq (⟨"ForgeHeats", "numberOf", "(I)I"⟩, 5) := ⟨⟨by decide +kernel, by decide +kernel⟩, List.mem_of_getElem? (i := 18) (by decide +kernel), List.mem_of_getElem? (i := 355) (by decide +kernel), List.mem_of_getElem? (i := 356) (by decide +kernel)⟩
theorem lw_p7 : lw_okq (⟨"ForgeHeats", "mixEquipment", "(J)J"⟩, 5) := ⟨⟨by decide +kernel, by decide +kernel⟩, List.mem_of_getElem? (i := 18) (by decide +kernel), List.mem_of_getElem? (i := 387) (by decide +kernel), List.mem_of_getElem? (i := 388) (by decide +kernel)⟩
theorem lw_p8 : lw_okq (⟨"ForgeHeats$Shop", "countBilletsOf", "(I)I"⟩, 19) := ⟨⟨by decide +kernel, by decide +kernel⟩, List.mem_of_getElem? (i := 26) (by decide +kernel), List.mem_of_getElem? (i := 399) (by decide +kernel), List.mem_of_getElem? (i := 400) (by decide +kernel)⟩
theorem lw_p9 : lw_okq (⟨"ForgeHeats$Shop", "countLackOf", "(I)I"⟩, 19) := ⟨⟨by decide +kernel, by decide +kernel⟩, List.mem_of_getElem? (i := 26) (by decide +kernel), List.mem_of_getElem? (i := 403) (by decide +kernel), List.mem_of_getElem? (i := 404) (by decide +kernel)⟩
theorem lw_p10 : lw_okq (⟨"ForgeHeats", "mixJobs", "(J)J"⟩, 5) := ⟨⟨by decide +kernel, by decide +kernel⟩, List.mem_of_getElem? (i := 18) (by decide +kernel), List.mem_of_getElem? (i := 424) (by decide +kernel), List.mem_of_getElem? (i := 425) (by decide +kernel)⟩
theorem lw_p11 : lw_okq (⟨"ForgeHeats$Shop", "reasonToWait", "(LForgeHeats$Job;)I"⟩, 19) := ⟨⟨by decide +kernel, by decide +kernel⟩, List.mem_of_getElem? (i := 26) (by decide +kernel), List.mem_of_getElem? (i := 432) (by decide +kernel), List.mem_of_getElem? (i := 433) (by decide +kernel)⟩
theorem lw_p12 : lw_okq (⟨"ForgeHeats$Shop", "hottestReady", "(LForgeHeats$Job;)LForgeHeats$Billet;"⟩, 19) := ⟨⟨by decide +kernel, by decide +kernel⟩, List.mem_of_getElem? (i := 26) (by decide +kernel), List.mem_of_getElem? (i := 440) (by decide +kernel), List.mem_of_getElem? (i := 441) (by decide +kernel)⟩
theorem lw_p13 : lw_okq (⟨"ForgeHeats", "goneBehind", "(I)I"⟩, 5) := ⟨⟨by decide +kernel, by decide +kernel⟩, List.mem_of_getElem? (i := 18) (by decide +kernel), List.mem_of_getElem? (i := 445) (by decide +kernel), List.mem_of_getElem? (i := 446) (by decide +kernel)⟩
theorem lw_p14 : lw_okq (⟨"ForgeHeats$Shop", "copyNumbersFrom", "(LForgeHeats$Shop;)V"⟩, 19) := ⟨⟨by decide +kernel, by decide +kernel⟩, List.mem_of_getElem? (i := 26) (by decide +kernel), List.mem_of_getElem? (i := 470) (by decide +kernel), List.mem_of_getElem? (i := 471) (by decide +kernel)⟩
theorem lw_p15 : lw_okq (⟨"ForgeHeats", "passUntilGone", "(I)I"⟩, 5) := ⟨⟨by decide +kernel, by decide +kernel⟩, List.mem_of_getElem? (i := 18) (by decide +kernel), List.mem_of_getElem? (i := 474) (by decide +kernel), List.mem_of_getElem? (i := 475) (by decide +kernel)⟩
def lw_privs_1 : List (MethodName × Nat) := [(⟨"ForgeHeats$JobText", "read", "(I)Z"⟩, 9), (⟨"ForgeHeats$JobText", "beginPart", "(I)V"⟩, 9), (⟨"ForgeHeats$JobText", "readEnd", "(I)Z"⟩, 9), (⟨"ForgeHeats$JobText", "readSeparator", "(I)Z"⟩, 9), (⟨"ForgeHeats$JobText", "readMoreDue", "(I)Z"⟩, 9), (⟨"ForgeHeats", "shareMade", "()D"⟩, 5), (⟨"ForgeHeats", "numberOf", "(I)I"⟩, 5), (⟨"ForgeHeats", "mixEquipment", "(J)J"⟩, 5), (⟨"ForgeHeats$Shop", "countBilletsOf", "(I)I"⟩, 19), (⟨"ForgeHeats$Shop", "countLackOf", "(I)I"⟩, 19), (⟨"ForgeHeats", "mixJobs", "(J)J"⟩, 5), (⟨"ForgeHeats$Shop", "reasonToWait", "(LForgeHeats$Job;)I"⟩, 19), (⟨"ForgeHeats$Shop", "hottestReady", "(LForgeHeats$Job;)LForgeHeats$Billet;"⟩, 19), (⟨"ForgeHeats", "goneBehind", "(I)I"⟩, 5), (⟨"ForgeHeats$Shop", "copyNumbersFrom", "(LForgeHeats$Shop;)V"⟩, 19), (⟨"ForgeHeats", "passUntilGone", "(I)I"⟩, 5)]
theorem lw_r1 : ∀ q ∈ lw_privs_1, lw_okq q := List.forall_mem_cons.mpr ⟨lw_p0, List.forall_mem_cons.mpr ⟨lw_p1, List.forall_mem_cons.mpr ⟨lw_p2, List.forall_mem_cons.mpr ⟨lw_p3, List.forall_mem_cons.mpr ⟨lw_p4, List.forall_mem_cons.mpr ⟨lw_p5, List.forall_mem_cons.mpr ⟨lw_p6, List.forall_mem_cons.mpr ⟨lw_p7, List.forall_mem_cons.mpr ⟨lw_p8, List.forall_mem_cons.mpr ⟨lw_p9, List.forall_mem_cons.mpr ⟨lw_p10, List.forall_mem_cons.mpr ⟨lw_p11, List.forall_mem_cons.mpr ⟨lw_p12, List.forall_mem_cons.mpr ⟨lw_p13, List.forall_mem_cons.mpr ⟨lw_p14, List.forall_mem_cons.mpr ⟨lw_p15, fun _ h => absurd h List.not_mem_nil⟩⟩⟩⟩⟩⟩⟩⟩⟩⟩⟩⟩⟩⟩⟩⟩
theorem lw_p16 : lw_okq (⟨"ForgeHeats$Shop", "warmFurnace", "()V"⟩, 19) := ⟨⟨by decide +kernel, by decide +kernel⟩, List.mem_of_getElem? (i := 26) (by decide +kernel), List.mem_of_getElem? (i := 482) (by decide +kernel), List.mem_of_getElem? (i := 483) (by decide +kernel)⟩
theorem lw_p17 : lw_okq (⟨"ForgeHeats$Shop", "chargeFurnace", "()V"⟩, 19) := ⟨⟨by decide +kernel, by decide +kernel⟩, List.mem_of_getElem? (i := 26) (by decide +kernel), List.mem_of_getElem? (i := 489) (by decide +kernel), List.mem_of_getElem? (i := 490) (by decide +kernel)⟩
theorem lw_p18 : lw_okq (⟨"ForgeHeats$Shop", "freePlace", "()LForgeHeats$Billet;"⟩, 19) := ⟨⟨by decide +kernel, by decide +kernel⟩, List.mem_of_getElem? (i := 26) (by decide +kernel), List.mem_of_getElem? (i := 493) (by decide +kernel), List.mem_of_getElem? (i := 494) (by decide +kernel)⟩
theorem lw_p19 : lw_okq (⟨"ForgeHeats$Shop", "loadPress", "()V"⟩, 19) := ⟨⟨by decide +kernel, by decide +kernel⟩, List.mem_of_getElem? (i := 26) (by decide +kernel), List.mem_of_getElem? (i := 497) (by decide +kernel), List.mem_of_getElem? (i := 498) (by decide +kernel)⟩
theorem lw_p20 : lw_okq (⟨"ForgeHeats$Shop", "workPress", "(I)V"⟩, 19) := ⟨⟨by decide +kernel, by decide +kernel⟩, List.mem_of_getElem? (i := 26) (by decide +kernel), List.mem_of_getElem? (i := 509) (by decide +kernel), List.mem_of_getElem? (i := 510) (by decide +kernel)⟩
theorem lw_p21 : lw_okq (⟨"ForgeHeats$Shop", "sendBack", "(LForgeHeats$Job;LForgeHeats$Heat;)V"⟩, 19) := ⟨⟨by decide +kernel, by decide +kernel⟩, List.mem_of_getElem? (i := 26) (by decide +kernel), List.mem_of_getElem? (i := 513) (by decide +kernel), List.mem_of_getElem? (i := 514) (by decide +kernel)⟩
theorem lw_p22 : lw_okq (⟨"ForgeHeats$Shop", "countGone", "(LForgeHeats$Job;)V"⟩, 19) := ⟨⟨by decide +kernel, by decide +kernel⟩, List.mem_of_getElem? (i := 26) (by decide +kernel), List.mem_of_getElem? (i := 520) (by decide +kernel), List.mem_of_getElem? (i := 521) (by decide +kernel)⟩
theorem lw_p23 : lw_okq (⟨"ForgeHeats$Shop", "removeJob", "(I)V"⟩, 19) := ⟨⟨by decide +kernel, by decide +kernel⟩, List.mem_of_getElem? (i := 26) (by decide +kernel), List.mem_of_getElem? (i := 524) (by decide +kernel), List.mem_of_getElem? (i := 525) (by decide +kernel)⟩
theorem lw_p24 : lw_okq (⟨"ForgeHeats$Shop", "swapJobs", "(II)V"⟩, 19) := ⟨⟨by decide +kernel, by decide +kernel⟩, List.mem_of_getElem? (i := 26) (by decide +kernel), List.mem_of_getElem? (i := 528) (by decide +kernel), List.mem_of_getElem? (i := 529) (by decide +kernel)⟩
theorem lw_p25 : lw_okq (⟨"ForgeHeats$Shop", "tendDies", "()V"⟩, 19) := ⟨⟨by decide +kernel, by decide +kernel⟩, List.mem_of_getElem? (i := 26) (by decide +kernel), List.mem_of_getElem? (i := 532) (by decide +kernel), List.mem_of_getElem? (i := 533) (by decide +kernel)⟩
theorem lw_p26 : lw_okq (⟨"ForgeHeats", "gainByHaste", "(II)I"⟩, 5) := ⟨⟨by decide +kernel, by decide +kernel⟩, List.mem_of_getElem? (i := 18) (by decide +kernel), List.mem_of_getElem? (i := 543) (by decide +kernel), List.mem_of_getElem? (i := 544) (by decide +kernel)⟩
theorem lw_p27 : lw_okq (⟨"ForgeHeats$Shop", "settle", "(I)I"⟩, 19) := ⟨⟨by decide +kernel, by decide +kernel⟩, List.mem_of_getElem? (i := 26) (by decide +kernel), List.mem_of_getElem? (i := 551) (by decide +kernel), List.mem_of_getElem? (i := 552) (by decide +kernel)⟩
theorem lw_p28 : lw_okq (⟨"ForgeHeats", "foresee", "(I)V"⟩, 5) := ⟨⟨by decide +kernel, by decide +kernel⟩, List.mem_of_getElem? (i := 18) (by decide +kernel), List.mem_of_getElem? (i := 559) (by decide +kernel), List.mem_of_getElem? (i := 560) (by decide +kernel)⟩
theorem lw_p29 : lw_okq (⟨"ForgeHeats", "foreseen", "(I)I"⟩, 5) := ⟨⟨by decide +kernel, by decide +kernel⟩, List.mem_of_getElem? (i := 18) (by decide +kernel), List.mem_of_getElem? (i := 568) (by decide +kernel), List.mem_of_getElem? (i := 569) (by decide +kernel)⟩
theorem lw_p30 : lw_okq (⟨"ForgeHeats", "bestNumberOfReheats", "(I)I"⟩, 5) := ⟨⟨by decide +kernel, by decide +kernel⟩, List.mem_of_getElem? (i := 18) (by decide +kernel), List.mem_of_getElem? (i := 572) (by decide +kernel), List.mem_of_getElem? (i := 573) (by decide +kernel)⟩
theorem lw_p31 : lw_okq (⟨"java/lang/Throwable", "fillInStackTrace", "(I)Ljava/lang/Throwable;"⟩, 6) := ⟨⟨by decide +kernel, by decide +kernel⟩, List.mem_of_getElem? (i := 634) (by decide +kernel), List.mem_of_getElem? (i := 632) (by decide +kernel), List.mem_of_getElem? (i := 633) (by decide +kernel)⟩
def lw_privs_2 : List (MethodName × Nat) := [(⟨"ForgeHeats$Shop", "warmFurnace", "()V"⟩, 19), (⟨"ForgeHeats$Shop", "chargeFurnace", "()V"⟩, 19), (⟨"ForgeHeats$Shop", "freePlace", "()LForgeHeats$Billet;"⟩, 19), (⟨"ForgeHeats$Shop", "loadPress", "()V"⟩, 19), (⟨"ForgeHeats$Shop", "workPress", "(I)V"⟩, 19), (⟨"ForgeHeats$Shop", "sendBack", "(LForgeHeats$Job;LForgeHeats$Heat;)V"⟩, 19), (⟨"ForgeHeats$Shop", "countGone", "(LForgeHeats$Job;)V"⟩, 19), (⟨"ForgeHeats$Shop", "removeJob", "(I)V"⟩, 19), (⟨"ForgeHeats$Shop", "swapJobs", "(II)V"⟩, 19), (⟨"ForgeHeats$Shop", "tendDies", "()V"⟩, 19), (⟨"ForgeHeats", "gainByHaste", "(II)I"⟩, 5), (⟨"ForgeHeats$Shop", "settle", "(I)I"⟩, 19), (⟨"ForgeHeats", "foresee", "(I)V"⟩, 5), (⟨"ForgeHeats", "foreseen", "(I)I"⟩, 5), (⟨"ForgeHeats", "bestNumberOfReheats", "(I)I"⟩, 5), (⟨"java/lang/Throwable", "fillInStackTrace", "(I)Ljava/lang/Throwable;"⟩, 6)]
theorem lw_r2 : ∀ q ∈ lw_privs_2, lw_okq q := List.forall_mem_cons.mpr ⟨lw_p16, List.forall_mem_cons.mpr ⟨lw_p17, List.forall_mem_cons.mpr ⟨lw_p18, List.forall_mem_cons.mpr ⟨lw_p19, List.forall_mem_cons.mpr ⟨lw_p20, List.forall_mem_cons.mpr ⟨lw_p21, List.forall_mem_cons.mpr ⟨lw_p22, List.forall_mem_cons.mpr ⟨lw_p23, List.forall_mem_cons.mpr ⟨lw_p24, List.forall_mem_cons.mpr ⟨lw_p25, List.forall_mem_cons.mpr ⟨lw_p26, List.forall_mem_cons.mpr ⟨lw_p27, List.forall_mem_cons.mpr ⟨lw_p28, List.forall_mem_cons.mpr ⟨lw_p29, List.forall_mem_cons.mpr ⟨lw_p30, List.forall_mem_cons.mpr ⟨lw_p31, fun _ h => absurd h List.not_mem_nil⟩⟩⟩⟩⟩⟩⟩⟩⟩⟩⟩⟩⟩⟩⟩⟩
theorem lw_p32 : lw_okq (⟨"ForgeHeats", "remember", "()V"⟩, 5) := ⟨⟨by decide +kernel, by decide +kernel⟩, List.mem_of_getElem? (i := 18) (by decide +kernel), List.mem_of_getElem? (i := 697) (by decide +kernel), List.mem_of_getElem? (i := 698) (by decide +kernel)⟩
theorem lw_p33 : lw_okq (⟨"ForgeHeats", "dropOldest", "()V"⟩, 5) := ⟨⟨by decide +kernel, by decide +kernel⟩, List.mem_of_getElem? (i := 18) (by decide +kernel), List.mem_of_getElem? (i := 701) (by decide +kernel), List.mem_of_getElem? (i := 702) (by decide +kernel)⟩
theorem lw_p34 : lw_okq (⟨"ForgeHeats", "pastAt", "(I)LForgeHeats$Shop;"⟩, 5) := ⟨⟨by decide +kernel, by decide +kernel⟩, List.mem_of_getElem? (i := 18) (by decide +kernel), List.mem_of_getElem? (i := 705) (by decide +kernel), List.mem_of_getElem? (i := 706) (by decide +kernel)⟩
theorem lw_p35 : lw_okq (⟨"ForgeHeatsModel", "fails", "(I)I"⟩, 12) := ⟨⟨by decide +kernel, by decide +kernel⟩, List.mem_of_getElem? (i := 919) (by decide +kernel), List.mem_of_getElem? (i := 977) (by decide +kernel), List.mem_of_getElem? (i := 978) (by decide +kernel)⟩
theorem lw_p36 : lw_okq (⟨"ForgeHeatsModel", "heatOf", "(II)I"⟩, 12) := ⟨⟨by decide +kernel, by decide +kernel⟩, List.mem_of_getElem? (i := 919) (by decide +kernel), List.mem_of_getElem? (i := 981) (by decide +kernel), List.mem_of_getElem? (i := 982) (by decide +kernel)⟩
theorem lw_p37 : lw_okq (⟨"ForgeHeatsModel", "saves", "()V"⟩, 12) := ⟨⟨by decide +kernel, by decide +kernel⟩, List.mem_of_getElem? (i := 919) (by decide +kernel), List.mem_of_getElem? (i := 985) (by decide +kernel), List.mem_of_getElem? (i := 986) (by decide +kernel)⟩
theorem lw_p38 : lw_okq (⟨"ForgeHeatsModel", "isBeingGround", "(I)Z"⟩, 12) := ⟨⟨by decide +kernel, by decide +kernel⟩, List.mem_of_getElem? (i := 919) (by decide +kernel), List.mem_of_getElem? (i := 1000) (by decide +kernel), List.mem_of_getElem? (i := 1001) (by decide +kernel)⟩
theorem lw_p39 : lw_okq (⟨"ForgeHeatsModel", "die0", "(II)I"⟩, 12) := ⟨⟨by decide +kernel, by decide +kernel⟩, List.mem_of_getElem? (i := 919) (by decide +kernel), List.mem_of_getElem? (i := 1004) (by decide +kernel), List.mem_of_getElem? (i := 1005) (by decide +kernel)⟩
theorem lw_p40 : lw_okq (⟨"ForgeHeatsModel", "begins", "(I)V"⟩, 12) := ⟨⟨by decide +kernel, by decide +kernel⟩, List.mem_of_getElem? (i := 919) (by decide +kernel), List.mem_of_getElem? (i := 1012) (by decide +kernel), List.mem_of_getElem? (i := 1013) (by decide +kernel)⟩
theorem lw_p41 : lw_okq (⟨"ForgeHeatsModel", "comes", "(IIIII)V"⟩, 12) := ⟨⟨by decide +kernel, by decide +kernel⟩, List.mem_of_getElem? (i := 919) (by decide +kernel), List.mem_of_getElem? (i := 1020) (by decide +kernel), List.mem_of_getElem? (i := 1021) (by decide +kernel)⟩
theorem lw_p42 : lw_okq (⟨"ForgeHeatsModel", "jobWith", "(I)I"⟩, 12) := ⟨⟨by decide +kernel, by decide +kernel⟩, List.mem_of_getElem? (i := 919) (by decide +kernel), List.mem_of_getElem? (i := 1028) (by decide +kernel), List.mem_of_getElem? (i := 1029) (by decide +kernel)⟩
theorem lw_p43 : lw_okq (⟨"ForgeHeatsModel", "job0", "(II)I"⟩, 12) := ⟨⟨by decide +kernel, by decide +kernel⟩, List.mem_of_getElem? (i := 919) (by decide +kernel), List.mem_of_getElem? (i := 1032) (by decide +kernel), List.mem_of_getElem? (i := 1033) (by decide +kernel)⟩
theorem lw_p44 : lw_okq (⟨"ForgeHeatsModel", "jobOn", "(I)I"⟩, 12) := ⟨⟨by decide +kernel, by decide +kernel⟩, List.mem_of_getElem? (i := 919) (by decide +kernel), List.mem_of_getElem? (i := 1036) (by decide +kernel), List.mem_of_getElem? (i := 1037) (by decide +kernel)⟩
theorem lw_p45 : lw_okq (⟨"ForgeHeatsModel", "billet0", "(II)I"⟩, 12) := ⟨⟨by decide +kernel, by decide +kernel⟩, List.mem_of_getElem? (i := 919) (by decide +kernel), List.mem_of_getElem? (i := 1040) (by decide +kernel), List.mem_of_getElem? (i := 1041) (by decide +kernel)⟩
theorem lw_p46 : lw_okq (⟨"ForgeHeatsModel", "scraps", "(I)V"⟩, 12) := ⟨⟨by decide +kernel, by decide +kernel⟩, List.mem_of_getElem? (i := 919) (by decide +kernel), List.mem_of_getElem? (i := 1044) (by decide +kernel), List.mem_of_getElem? (i := 1045) (by decide +kernel)⟩
theorem lw_p47 : lw_okq (⟨"ForgeHeatsModel", "clears", "(I)V"⟩, 12) := ⟨⟨by decide +kernel, by decide +kernel⟩, List.mem_of_getElem? (i := 919) (by decide +kernel), List.mem_of_getElem? (i := 1048) (by decide +kernel), List.mem_of_getElem? (i := 1049) (by decide +kernel)⟩
def lw_privs_3 : List (MethodName × Nat) := [(⟨"ForgeHeats", "remember", "()V"⟩, 5), (⟨"ForgeHeats", "dropOldest", "()V"⟩, 5), (⟨"ForgeHeats", "pastAt", "(I)LForgeHeats$Shop;"⟩, 5), (⟨"ForgeHeatsModel", "fails", "(I)I"⟩, 12), (⟨"ForgeHeatsModel", "heatOf", "(II)I"⟩, 12), (⟨"ForgeHeatsModel", "saves", "()V"⟩, 12), (⟨"ForgeHeatsModel", "isBeingGround", "(I)Z"⟩, 12), (⟨"ForgeHeatsModel", "die0", "(II)I"⟩, 12), (⟨"ForgeHeatsModel", "begins", "(I)V"⟩, 12), (⟨"ForgeHeatsModel", "comes", "(IIIII)V"⟩, 12), (⟨"ForgeHeatsModel", "jobWith", "(I)I"⟩, 12), (⟨"ForgeHeatsModel", "job0", "(II)I"⟩, 12), (⟨"ForgeHeatsModel", "jobOn", "(I)I"⟩, 12), (⟨"ForgeHeatsModel", "billet0", "(II)I"⟩, 12), (⟨"ForgeHeatsModel", "scraps", "(I)V"⟩, 12), (⟨"ForgeHeatsModel", "clears", "(I)V"⟩, 12)]
theorem lw_r3 : ∀ q ∈ lw_privs_3, lw_okq q := List.forall_mem_cons.mpr ⟨lw_p32, List.forall_mem_cons.mpr ⟨lw_p33, List.forall_mem_cons.mpr ⟨lw_p34, List.forall_mem_cons.mpr ⟨lw_p35, List.forall_mem_cons.mpr ⟨lw_p36, List.forall_mem_cons.mpr ⟨lw_p37, List.forall_mem_cons.mpr ⟨lw_p38, List.forall_mem_cons.mpr ⟨lw_p39, List.forall_mem_cons.mpr ⟨lw_p40, List.forall_mem_cons.mpr ⟨lw_p41, List.forall_mem_cons.mpr ⟨lw_p42, List.forall_mem_cons.mpr ⟨lw_p43, List.forall_mem_cons.mpr ⟨lw_p44, List.forall_mem_cons.mpr ⟨lw_p45, List.forall_mem_cons.mpr ⟨lw_p46, List.forall_mem_cons.mpr ⟨lw_p47, fun _ h => absurd h List.not_mem_nil⟩⟩⟩⟩⟩⟩⟩⟩⟩⟩⟩⟩⟩⟩⟩⟩
theorem lw_p48 : lw_okq (⟨"ForgeHeatsModel", "lay", "(III)V"⟩, 12) := ⟨⟨by decide +kernel, by decide +kernel⟩, List.mem_of_getElem? (i := 919) (by decide +kernel), List.mem_of_getElem? (i := 1052) (by decide +kernel), List.mem_of_getElem? (i := 1053) (by decide +kernel)⟩
theorem lw_p49 : lw_okq (⟨"ForgeHeatsModel", "dropsJob", "(I)V"⟩, 12) := ⟨⟨by decide +kernel, by decide +kernel⟩, List.mem_of_getElem? (i := 919) (by decide +kernel), List.mem_of_getElem? (i := 1056) (by decide +kernel), List.mem_of_getElem? (i := 1057) (by decide +kernel)⟩
theorem lw_p50 : lw_okq (⟨"ForgeHeatsModel", "rankOf", "(I)I"⟩, 12) := ⟨⟨by decide +kernel, by decide +kernel⟩, List.mem_of_getElem? (i := 919) (by decide +kernel), List.mem_of_getElem? (i := 1064) (by decide +kernel), List.mem_of_getElem? (i := 1065) (by decide +kernel)⟩
theorem lw_p51 : lw_okq (⟨"ForgeHeatsModel", "isAhead", "(II)Z"⟩, 12) := ⟨⟨by decide +kernel, by decide +kernel⟩, List.mem_of_getElem? (i := 919) (by decide +kernel), List.mem_of_getElem? (i := 1068) (by decide +kernel), List.mem_of_getElem? (i := 1069) (by decide +kernel)⟩
theorem lw_p52 : lw_okq (⟨"ForgeHeatsModel", "minutes", "(I)I"⟩, 12) := ⟨⟨by decide +kernel, by decide +kernel⟩, List.mem_of_getElem? (i := 919) (by decide +kernel), List.mem_of_getElem? (i := 1083) (by decide +kernel), List.mem_of_getElem? (i := 1084) (by decide +kernel)⟩
theorem lw_p53 : lw_okq (⟨"ForgeHeatsModel", "minute", "()V"⟩, 12) := ⟨⟨by decide +kernel, by decide +kernel⟩, List.mem_of_getElem? (i := 919) (by decide +kernel), List.mem_of_getElem? (i := 1087) (by decide +kernel), List.mem_of_getElem? (i := 1088) (by decide +kernel)⟩
theorem lw_p54 : lw_okq (⟨"ForgeHeatsModel", "warms", "()V"⟩, 12) := ⟨⟨by decide +kernel, by decide +kernel⟩, List.mem_of_getElem? (i := 919) (by decide +kernel), List.mem_of_getElem? (i := 1091) (by decide +kernel), List.mem_of_getElem? (i := 1092) (by decide +kernel)⟩
theorem lw_p55 : lw_okq (⟨"ForgeHeatsModel", "loads", "()V"⟩, 12) := ⟨⟨by decide +kernel, by decide +kernel⟩, List.mem_of_getElem? (i := 919) (by decide +kernel), List.mem_of_getElem? (i := 1095) (by decide +kernel), List.mem_of_getElem? (i := 1096) (by decide +kernel)⟩
theorem lw_p56 : lw_okq (⟨"ForgeHeatsModel", "freePlace", "()I"⟩, 12) := ⟨⟨by decide +kernel, by decide +kernel⟩, List.mem_of_getElem? (i := 919) (by decide +kernel), List.mem_of_getElem? (i := 1099) (by decide +kernel), List.mem_of_getElem? (i := 1100) (by decide +kernel)⟩
theorem lw_p57 : lw_okq (⟨"ForgeHeatsModel", "jobAt", "(I)I"⟩, 12) := ⟨⟨by decide +kernel, by decide +kernel⟩, List.mem_of_getElem? (i := 919) (by decide +kernel), List.mem_of_getElem? (i := 1103) (by decide +kernel), List.mem_of_getElem? (i := 1104) (by decide +kernel)⟩
theorem lw_p58 : lw_okq (⟨"ForgeHeatsModel", "lacks", "(I)I"⟩, 12) := ⟨⟨by decide +kernel, by decide +kernel⟩, List.mem_of_getElem? (i := 919) (by decide +kernel), List.mem_of_getElem? (i := 1107) (by decide +kernel), List.mem_of_getElem? (i := 1108) (by decide +kernel)⟩
theorem lw_p59 : lw_okq (⟨"ForgeHeatsModel", "billetsOf", "(III)I"⟩, 12) := ⟨⟨by decide +kernel, by decide +kernel⟩, List.mem_of_getElem? (i := 919) (by decide +kernel), List.mem_of_getElem? (i := 1111) (by decide +kernel), List.mem_of_getElem? (i := 1112) (by decide +kernel)⟩
theorem lw_p60 : lw_okq (⟨"ForgeHeatsModel", "takes", "()V"⟩, 12) := ⟨⟨by decide +kernel, by decide +kernel⟩, List.mem_of_getElem? (i := 919) (by decide +kernel), List.mem_of_getElem? (i := 1115) (by decide +kernel), List.mem_of_getElem? (i := 1116) (by decide +kernel)⟩
theorem lw_p61 : lw_okq (⟨"ForgeHeatsModel", "isFit", "(I)Z"⟩, 12) := ⟨⟨by decide +kernel, by decide +kernel⟩, List.mem_of_getElem? (i := 919) (by decide +kernel), List.mem_of_getElem? (i := 1119) (by decide +kernel), List.mem_of_getElem? (i := 1120) (by decide +kernel)⟩
theorem lw_p62 : lw_okq (⟨"ForgeHeatsModel", "isWornOut", "(I)Z"⟩, 12) := ⟨⟨by decide +kernel, by decide +kernel⟩, List.mem_of_getElem? (i := 919) (by decide +kernel), List.mem_of_getElem? (i := 1123) (by decide +kernel), List.mem_of_getElem? (i := 1124) (by decide +kernel)⟩
theorem lw_p63 : lw_okq (⟨"ForgeHeatsModel", "hottest", "(I)I"⟩, 12) := ⟨⟨by decide +kernel, by decide +kernel⟩, List.mem_of_getElem? (i := 919) (by decide +kernel), List.mem_of_getElem? (i := 1127) (by decide +kernel), List.mem_of_getElem? (i := 1128) (by decide +kernel)⟩
def lw_privs_4 : List (MethodName × Nat) := [(⟨"ForgeHeatsModel", "lay", "(III)V"⟩, 12), (⟨"ForgeHeatsModel", "dropsJob", "(I)V"⟩, 12), (⟨"ForgeHeatsModel", "rankOf", "(I)I"⟩, 12), (⟨"ForgeHeatsModel", "isAhead", "(II)Z"⟩, 12), (⟨"ForgeHeatsModel", "minutes", "(I)I"⟩, 12), (⟨"ForgeHeatsModel", "minute", "()V"⟩, 12), (⟨"ForgeHeatsModel", "warms", "()V"⟩, 12), (⟨"ForgeHeatsModel", "loads", "()V"⟩, 12), (⟨"ForgeHeatsModel", "freePlace", "()I"⟩, 12), (⟨"ForgeHeatsModel", "jobAt", "(I)I"⟩, 12), (⟨"ForgeHeatsModel", "lacks", "(I)I"⟩, 12), (⟨"ForgeHeatsModel", "billetsOf", "(III)I"⟩, 12), (⟨"ForgeHeatsModel", "takes", "()V"⟩, 12), (⟨"ForgeHeatsModel", "isFit", "(I)Z"⟩, 12), (⟨"ForgeHeatsModel", "isWornOut", "(I)Z"⟩, 12), (⟨"ForgeHeatsModel", "hottest", "(I)I"⟩, 12)]
theorem lw_r4 : ∀ q ∈ lw_privs_4, lw_okq q := List.forall_mem_cons.mpr ⟨lw_p48, List.forall_mem_cons.mpr ⟨lw_p49, List.forall_mem_cons.mpr ⟨lw_p50, List.forall_mem_cons.mpr ⟨lw_p51, List.forall_mem_cons.mpr ⟨lw_p52, List.forall_mem_cons.mpr ⟨lw_p53, List.forall_mem_cons.mpr ⟨lw_p54, List.forall_mem_cons.mpr ⟨lw_p55, List.forall_mem_cons.mpr ⟨lw_p56, List.forall_mem_cons.mpr ⟨lw_p57, List.forall_mem_cons.mpr ⟨lw_p58, List.forall_mem_cons.mpr ⟨lw_p59, List.forall_mem_cons.mpr ⟨lw_p60, List.forall_mem_cons.mpr ⟨lw_p61, List.forall_mem_cons.mpr ⟨lw_p62, List.forall_mem_cons.mpr ⟨lw_p63, fun _ h => absurd h List.not_mem_nil⟩⟩⟩⟩⟩⟩⟩⟩⟩⟩⟩⟩⟩⟩⟩⟩
theorem lw_p64 : lw_okq (⟨"ForgeHeatsModel", "moves", "(II)V"⟩, 12) := ⟨⟨by decide +kernel, by decide +kernel⟩, List.mem_of_getElem? (i := 919) (by decide +kernel), List.mem_of_getElem? (i := 1131) (by decide +kernel), List.mem_of_getElem? (i := 1132) (by decide +kernel)⟩
theorem lw_p65 : lw_okq (⟨"ForgeHeatsModel", "presses", "(I)V"⟩, 12) := ⟨⟨by decide +kernel, by decide +kernel⟩, List.mem_of_getElem? (i := 919) (by decide +kernel), List.mem_of_getElem? (i := 1135) (by decide +kernel), List.mem_of_getElem? (i := 1136) (by decide +kernel)⟩
theorem lw_p66 : lw_okq (⟨"ForgeHeatsModel", "goesBack", "()V"⟩, 12) := ⟨⟨by decide +kernel, by decide +kernel⟩, List.mem_of_getElem? (i := 919) (by decide +kernel), List.mem_of_getElem? (i := 1139) (by decide +kernel), List.mem_of_getElem? (i := 1140) (by decide +kernel)⟩
theorem lw_p67 : lw_okq (⟨"ForgeHeatsModel", "makes", "(I)V"⟩, 12) := ⟨⟨by decide +kernel, by decide +kernel⟩, List.mem_of_getElem? (i := 919) (by decide +kernel), List.mem_of_getElem? (i := 1143) (by decide +kernel), List.mem_of_getElem? (i := 1144) (by decide +kernel)⟩
theorem lw_p68 : lw_okq (⟨"ForgeHeatsModel", "grinds", "()V"⟩, 12) := ⟨⟨by decide +kernel, by decide +kernel⟩, List.mem_of_getElem? (i := 919) (by decide +kernel), List.mem_of_getElem? (i := 1147) (by decide +kernel), List.mem_of_getElem? (i := 1148) (by decide +kernel)⟩
theorem lw_p69 : lw_okq (⟨"ForgeHeatsModel", "readsAll", "()V"⟩, 12) := ⟨⟨by decide +kernel, by decide +kernel⟩, List.mem_of_getElem? (i := 919) (by decide +kernel), List.mem_of_getElem? (i := 1163) (by decide +kernel), List.mem_of_getElem? (i := 1164) (by decide +kernel)⟩
theorem lw_p70 : lw_okq (⟨"ForgeHeatsModel", "readsPart", "()V"⟩, 12) := ⟨⟨by decide +kernel, by decide +kernel⟩, List.mem_of_getElem? (i := 919) (by decide +kernel), List.mem_of_getElem? (i := 1167) (by decide +kernel), List.mem_of_getElem? (i := 1168) (by decide +kernel)⟩
theorem lw_p71 : lw_okq (⟨"ForgeHeatsModel", "number", "(II)I"⟩, 12) := ⟨⟨by decide +kernel, by decide +kernel⟩, List.mem_of_getElem? (i := 919) (by decide +kernel), List.mem_of_getElem? (i := 1171) (by decide +kernel), List.mem_of_getElem? (i := 1172) (by decide +kernel)⟩
theorem lw_p72 : lw_okq (⟨"ForgeHeatsModel", "sign", "()I"⟩, 12) := ⟨⟨by decide +kernel, by decide +kernel⟩, List.mem_of_getElem? (i := 919) (by decide +kernel), List.mem_of_getElem? (i := 1175) (by decide +kernel), List.mem_of_getElem? (i := 1176) (by decide +kernel)⟩
theorem lw_p73 : lw_okq (⟨"ForgeHeatsModel", "takesSign", "(I)Z"⟩, 12) := ⟨⟨by decide +kernel, by decide +kernel⟩, List.mem_of_getElem? (i := 919) (by decide +kernel), List.mem_of_getElem? (i := 1179) (by decide +kernel), List.mem_of_getElem? (i := 1180) (by decide +kernel)⟩
theorem lw_p74 : lw_okq (⟨"ForgeHeatsModel", "tellsHeat", "(II)I"⟩, 12) := ⟨⟨by decide +kernel, by decide +kernel⟩, List.mem_of_getElem? (i := 919) (by decide +kernel), List.mem_of_getElem? (i := 1195) (by decide +kernel), List.mem_of_getElem? (i := 1196) (by decide +kernel)⟩
theorem lw_p75 : lw_okq (⟨"ForgeHeatsModel", "billetsWith", "(I)I"⟩, 12) := ⟨⟨by decide +kernel, by decide +kernel⟩, List.mem_of_getElem? (i := 919) (by decide +kernel), List.mem_of_getElem? (i := 1199) (by decide +kernel), List.mem_of_getElem? (i := 1200) (by decide +kernel)⟩
theorem lw_p76 : lw_okq (⟨"ForgeHeatsModel", "lackedWith", "(I)I"⟩, 12) := ⟨⟨by decide +kernel, by decide +kernel⟩, List.mem_of_getElem? (i := 919) (by decide +kernel), List.mem_of_getElem? (i := 1203) (by decide +kernel), List.mem_of_getElem? (i := 1204) (by decide +kernel)⟩
theorem lw_p77 : lw_okq (⟨"ForgeHeatsModel", "tellsDie", "(II)I"⟩, 12) := ⟨⟨by decide +kernel, by decide +kernel⟩, List.mem_of_getElem? (i := 919) (by decide +kernel), List.mem_of_getElem? (i := 1211) (by decide +kernel), List.mem_of_getElem? (i := 1212) (by decide +kernel)⟩
theorem lw_p78 : lw_okq (⟨"ForgeHeatsModel", "tellsJob", "(II)I"⟩, 12) := ⟨⟨by decide +kernel, by decide +kernel⟩, List.mem_of_getElem? (i := 919) (by decide +kernel), List.mem_of_getElem? (i := 1219) (by decide +kernel), List.mem_of_getElem? (i := 1220) (by decide +kernel)⟩
theorem lw_p79 : lw_okq (⟨"ForgeHeatsModel", "reason", "(I)I"⟩, 12) := ⟨⟨by decide +kernel, by decide +kernel⟩, List.mem_of_getElem? (i := 919) (by decide +kernel), List.mem_of_getElem? (i := 1223) (by decide +kernel), List.mem_of_getElem? (i := 1224) (by decide +kernel)⟩
def lw_privs_5 : List (MethodName × Nat) := [(⟨"ForgeHeatsModel", "moves", "(II)V"⟩, 12), (⟨"ForgeHeatsModel", "presses", "(I)V"⟩, 12), (⟨"ForgeHeatsModel", "goesBack", "()V"⟩, 12), (⟨"ForgeHeatsModel", "makes", "(I)V"⟩, 12), (⟨"ForgeHeatsModel", "grinds", "()V"⟩, 12), (⟨"ForgeHeatsModel", "readsAll", "()V"⟩, 12), (⟨"ForgeHeatsModel", "readsPart", "()V"⟩, 12), (⟨"ForgeHeatsModel", "number", "(II)I"⟩, 12), (⟨"ForgeHeatsModel", "sign", "()I"⟩, 12), (⟨"ForgeHeatsModel", "takesSign", "(I)Z"⟩, 12), (⟨"ForgeHeatsModel", "tellsHeat", "(II)I"⟩, 12), (⟨"ForgeHeatsModel", "billetsWith", "(I)I"⟩, 12), (⟨"ForgeHeatsModel", "lackedWith", "(I)I"⟩, 12), (⟨"ForgeHeatsModel", "tellsDie", "(II)I"⟩, 12), (⟨"ForgeHeatsModel", "tellsJob", "(II)I"⟩, 12), (⟨"ForgeHeatsModel", "reason", "(I)I"⟩, 12)]
theorem lw_r5 : ∀ q ∈ lw_privs_5, lw_okq q := List.forall_mem_cons.mpr ⟨lw_p64, List.forall_mem_cons.mpr ⟨lw_p65, List.forall_mem_cons.mpr ⟨lw_p66, List.forall_mem_cons.mpr ⟨lw_p67, List.forall_mem_cons.mpr ⟨lw_p68, List.forall_mem_cons.mpr ⟨lw_p69, List.forall_mem_cons.mpr ⟨lw_p70, List.forall_mem_cons.mpr ⟨lw_p71, List.forall_mem_cons.mpr ⟨lw_p72, List.forall_mem_cons.mpr ⟨lw_p73, List.forall_mem_cons.mpr ⟨lw_p74, List.forall_mem_cons.mpr ⟨lw_p75, List.forall_mem_cons.mpr ⟨lw_p76, List.forall_mem_cons.mpr ⟨lw_p77, List.forall_mem_cons.mpr ⟨lw_p78, List.forall_mem_cons.mpr ⟨lw_p79, fun _ h => absurd h List.not_mem_nil⟩⟩⟩⟩⟩⟩⟩⟩⟩⟩⟩⟩⟩⟩⟩⟩
theorem lw_p80 : lw_okq (⟨"ForgeHeatsModel", "tellsBillet", "(II)I"⟩, 12) := ⟨⟨by decide +kernel, by decide +kernel⟩, List.mem_of_getElem? (i := 919) (by decide +kernel), List.mem_of_getElem? (i := 1231) (by decide +kernel), List.mem_of_getElem? (i := 1232) (by decide +kernel)⟩
theorem lw_p81 : lw_okq (⟨"ForgeHeatsModel", "counts", "(I)I"⟩, 12) := ⟨⟨by decide +kernel, by decide +kernel⟩, List.mem_of_getElem? (i := 919) (by decide +kernel), List.mem_of_getElem? (i := 1239) (by decide +kernel), List.mem_of_getElem? (i := 1240) (by decide +kernel)⟩
theorem lw_p82 : lw_okq (⟨"ForgeHeatsModel", "rushJobs", "()I"⟩, 12) := ⟨⟨by decide +kernel, by decide +kernel⟩, List.mem_of_getElem? (i := 919) (by decide +kernel), List.mem_of_getElem? (i := 1243) (by decide +kernel), List.mem_of_getElem? (i := 1244) (by decide +kernel)⟩
theorem lw_p83 : lw_okq (⟨"ForgeHeatsModel", "inFurnace", "()I"⟩, 12) := ⟨⟨by decide +kernel, by decide +kernel⟩, List.mem_of_getElem? (i := 919) (by decide +kernel), List.mem_of_getElem? (i := 1247) (by decide +kernel), List.mem_of_getElem? (i := 1248) (by decide +kernel)⟩
theorem lw_p84 : lw_okq (⟨"ForgeHeatsModel", "passed", "(II)I"⟩, 12) := ⟨⟨by decide +kernel, by decide +kernel⟩, List.mem_of_getElem? (i := 919) (by decide +kernel), List.mem_of_getElem? (i := 1259) (by decide +kernel), List.mem_of_getElem? (i := 1260) (by decide +kernel)⟩
theorem lw_p85 : lw_okq (⟨"ForgeHeatsModel", "putAside", "()V"⟩, 12) := ⟨⟨by decide +kernel, by decide +kernel⟩, List.mem_of_getElem? (i := 919) (by decide +kernel), List.mem_of_getElem? (i := 1263) (by decide +kernel), List.mem_of_getElem? (i := 1264) (by decide +kernel)⟩
theorem lw_p86 : lw_okq (⟨"ForgeHeatsModel", "takeBack", "()V"⟩, 12) := ⟨⟨by decide +kernel, by decide +kernel⟩, List.mem_of_getElem? (i := 919) (by decide +kernel), List.mem_of_getElem? (i := 1267) (by decide +kernel), List.mem_of_getElem? (i := 1268) (by decide +kernel)⟩
theorem lw_p87 : lw_okq (⟨"ForgeHeatsModel", "untilGone", "(IZ)I"⟩, 12) := ⟨⟨by decide +kernel, by decide +kernel⟩, List.mem_of_getElem? (i := 919) (by decide +kernel), List.mem_of_getElem? (i := 1275) (by decide +kernel), List.mem_of_getElem? (i := 1276) (by decide +kernel)⟩
theorem lw_p88 : lw_okq (⟨"ForgeHeatsModel", "earlier", "(I)I"⟩, 12) := ⟨⟨by decide +kernel, by decide +kernel⟩, List.mem_of_getElem? (i := 919) (by decide +kernel), List.mem_of_getElem? (i := 1283) (by decide +kernel), List.mem_of_getElem? (i := 1284) (by decide +kernel)⟩
theorem lw_p89 : lw_okq (⟨"ForgeHeatsModel", "reheatsFor", "(I)I"⟩, 12) := ⟨⟨by decide +kernel, by decide +kernel⟩, List.mem_of_getElem? (i := 919) (by decide +kernel), List.mem_of_getElem? (i := 1291) (by decide +kernel), List.mem_of_getElem? (i := 1292) (by decide +kernel)⟩
theorem lw_p90 : lw_okq (⟨"ForgeHeatsModel", "hashes", "(J)V"⟩, 12) := ⟨⟨by decide +kernel, by decide +kernel⟩, List.mem_of_getElem? (i := 919) (by decide +kernel), List.mem_of_getElem? (i := 1304) (by decide +kernel), List.mem_of_getElem? (i := 1305) (by decide +kernel)⟩
theorem lw_p91 : lw_okq (⟨"ForgeHeatsModel", "hashesShop", "()V"⟩, 12) := ⟨⟨by decide +kernel, by decide +kernel⟩, List.mem_of_getElem? (i := 919) (by decide +kernel), List.mem_of_getElem? (i := 1309) (by decide +kernel), List.mem_of_getElem? (i := 1310) (by decide +kernel)⟩
def lw_privs_6 : List (MethodName × Nat) := [(⟨"ForgeHeatsModel", "tellsBillet", "(II)I"⟩, 12), (⟨"ForgeHeatsModel", "counts", "(I)I"⟩, 12), (⟨"ForgeHeatsModel", "rushJobs", "()I"⟩, 12), (⟨"ForgeHeatsModel", "inFurnace", "()I"⟩, 12), (⟨"ForgeHeatsModel", "passed", "(II)I"⟩, 12), (⟨"ForgeHeatsModel", "putAside", "()V"⟩, 12), (⟨"ForgeHeatsModel", "takeBack", "()V"⟩, 12), (⟨"ForgeHeatsModel", "untilGone", "(IZ)I"⟩, 12), (⟨"ForgeHeatsModel", "earlier", "(I)I"⟩, 12), (⟨"ForgeHeatsModel", "reheatsFor", "(I)I"⟩, 12), (⟨"ForgeHeatsModel", "hashes", "(J)V"⟩, 12), (⟨"ForgeHeatsModel", "hashesShop", "()V"⟩, 12)]
theorem lw_r6 : ∀ q ∈ lw_privs_6, lw_okq q := List.forall_mem_cons.mpr ⟨lw_p80, List.forall_mem_cons.mpr ⟨lw_p81, List.forall_mem_cons.mpr ⟨lw_p82, List.forall_mem_cons.mpr ⟨lw_p83, List.forall_mem_cons.mpr ⟨lw_p84, List.forall_mem_cons.mpr ⟨lw_p85, List.forall_mem_cons.mpr ⟨lw_p86, List.forall_mem_cons.mpr ⟨lw_p87, List.forall_mem_cons.mpr ⟨lw_p88, List.forall_mem_cons.mpr ⟨lw_p89, List.forall_mem_cons.mpr ⟨lw_p90, List.forall_mem_cons.mpr ⟨lw_p91, fun _ h => absurd h List.not_mem_nil⟩⟩⟩⟩⟩⟩⟩⟩⟩⟩⟩⟩
def lw_privs : List (MethodName × Nat) := lw_privs_1 ++ (lw_privs_2 ++ (lw_privs_3 ++ (lw_privs_4 ++ (lw_privs_5 ++ (lw_privs_6)))))
def lw_tbl : List Cond := k2_sels lw_privs ++ tables_1
theorem lw_privs_ok : ∀ q ∈ lw_privs, lw_okq q := by
  show ∀ q ∈ lw_privs_1 ++ (lw_privs_2 ++ (lw_privs_3 ++ (lw_privs_4 ++ (lw_privs_5 ++ (lw_privs_6))))), lw_okq q
  exact List.forall_mem_append.mpr ⟨lw_r1, List.forall_mem_append.mpr ⟨lw_r2, List.forall_mem_append.mpr ⟨lw_r3, List.forall_mem_append.mpr ⟨lw_r4, List.forall_mem_append.mpr ⟨lw_r5, lw_r6⟩⟩⟩⟩⟩
/-- the streams that the claim lets the run draw from -/
abbrev lw_cs : List Choice := [Jvm.Choice.named "NaN.bits"]
theorem lw_bits : nanBits ∈ lw_cs := by first | decide | exact List.mem_cons_self | simp [lw_cs, nanBits]
-- ===== end of PART A; then your names; then what follows =====
/-! ===== BEGIN words of one list among another's, by their places ===== -/
theorem goodIn_r {big : List Cond} (ws : List Cond) (ps : List Nat) (hp : ws = ps.filterMap (fun i => big[i]?)) (h : ws.all goodWord = true) : GoodIn big ws := by
  intro w hw
  have h1 := List.all_eq_true.mp h w hw
  rw [hp] at hw
  obtain ⟨i, -, hi⟩ := List.mem_filterMap.mp hw
  have hm : w ∈ big := by first | exact List.mem_of_getElem? hi | exact List.getElem?_mem hi
  exact ⟨hm, good_of_word h1⟩
theorem goodIn_app {big a b : List Cond} (ha : GoodIn big a) (hb : GoodIn big b) : GoodIn big (a ++ b) := fun w h => (List.mem_append.mp h).elim (ha w) (hb w)
theorem goodIn_ca {big a b : List Cond} {c : Cond} (ha : GoodIn big (c :: a)) (hb : GoodIn big b) : GoodIn big (c :: (a ++ b)) := fun w h => (List.mem_cons.mp h).elim (fun e => ha w (List.mem_cons.mpr (Or.inl e))) (fun h => (List.mem_append.mp h).elim (fun h => ha w (List.mem_cons.mpr (Or.inr h))) (hb w))
theorem goodIn_sub {big ws : List Cond} (hm : ∀ w ∈ ws, w ∈ big) (h : ws.all goodWord = true) : GoodIn big ws := fun w hw => ⟨hm w hw, good_of_word (List.all_eq_true.mp h w hw)⟩
/-! ===== END ===== -/
def RX0 : String := "ForgeHeats$Billet"
def TX0 : u_T := fun k => match k with
  | 0 => ("ForgeHeats$Billet", "job", "I", false)
  | 1 => ("ForgeHeats$Billet", "degrees", "I", false)
  | 2 => ("ForgeHeats$Billet", "reheats", "I", false)
  | _ => ("ForgeHeats$Billet", "blows", "I", false)
def tyX0 : Nat → FieldType := fun k => match k with
  | 0 => .int
  | 1 => .int
  | 2 => .int
  | _ => .int
abbrev wsX00 : List Cond := u_ws RX0 TX0 4
theorem nmX0 : ∀ a, a < 4 → ∀ b, b < 4 → a ≠ b → (TX0 a).2.1 ≠ (TX0 b).2.1 := by decide +kernel
theorem tyX0_ok : ∀ k, k < 4 → parseFieldDescriptor (TX0 k).2.2.1 = some (tyX0 k) := by decide +kernel
abbrev cX0_init : ByteArray := prog_2_method_1_code
def yX0_init : MethodName := ⟨RX0, "<init>", "()V"⟩
abbrev cX0_copyFrom : ByteArray := prog_2_method_2_code
def yX0_copyFrom : MethodName := ⟨RX0, "copyFrom", "(LForgeHeats$Billet;)V"⟩
abbrev cX0_property : ByteArray := prog_2_method_3_code
def yX0_property : MethodName := ⟨RX0, "property", "(I)I"⟩
def RX1 : String := "ForgeHeats$Die"
def TX1 : u_T := fun k => match k with
  | 0 => ("ForgeHeats$Die", "blows", "I", false)
  | 1 => ("ForgeHeats$Die", "limit", "I", false)
  | 2 => ("ForgeHeats$Die", "wear", "I", false)
  | 3 => ("ForgeHeats$Die", "toGo", "I", false)
  | 4 => ("ForgeHeats$Die", "made", "I", false)
  | _ => ("ForgeHeats$Die", "timesGround", "I", false)
def tyX1 : Nat → FieldType := fun k => match k with
  | 0 => .int
  | 1 => .int
  | 2 => .int
  | 3 => .int
  | 4 => .int
  | _ => .int
abbrev wsX10 : List Cond := u_ws RX1 TX1 6
theorem nmX1 : ∀ a, a < 6 → ∀ b, b < 6 → a ≠ b → (TX1 a).2.1 ≠ (TX1 b).2.1 := by decide +kernel
theorem tyX1_ok : ∀ k, k < 6 → parseFieldDescriptor (TX1 k).2.2.1 = some (tyX1 k) := by decide +kernel
abbrev cX1_init : ByteArray := prog_3_method_1_code
def yX1_init : MethodName := ⟨RX1, "<init>", "()V"⟩
abbrev cX1_copyFrom : ByteArray := prog_3_method_2_code
def yX1_copyFrom : MethodName := ⟨RX1, "copyFrom", "(LForgeHeats$Die;)V"⟩
abbrev cX1_isBeingGround : ByteArray := prog_3_method_3_code
def yX1_isBeingGround : MethodName := ⟨RX1, "isBeingGround", "()Z"⟩
abbrev cX1_isWornOut : ByteArray := prog_3_method_4_code
def yX1_isWornOut : MethodName := ⟨RX1, "isWornOut", "()Z"⟩
abbrev cX1_canForge : ByteArray := prog_3_method_5_code
def yX1_canForge : MethodName := ⟨RX1, "canForge", "()Z"⟩
abbrev cX1_grindMinute : ByteArray := prog_3_method_6_code
def yX1_grindMinute : MethodName := ⟨RX1, "grindMinute", "()V"⟩
abbrev cX1_property : ByteArray := prog_3_method_7_code
def yX1_property : MethodName := ⟨RX1, "property", "(I)I"⟩
def RX2 : String := "ForgeHeats$Heat"
def TX2 : u_T := fun k => match k with
  | 0 => ("ForgeHeats$Heat", "stock", "I", false)
  | 1 => ("ForgeHeats$Heat", "low", "I", false)
  | 2 => ("ForgeHeats$Heat", "high", "I", false)
  | 3 => ("ForgeHeats$Heat", "made", "I", false)
  | _ => ("ForgeHeats$Heat", "scrap", "I", false)
def tyX2 : Nat → FieldType := fun k => match k with
  | 0 => .int
  | 1 => .int
  | 2 => .int
  | 3 => .int
  | _ => .int
abbrev wsX20 : List Cond := u_ws RX2 TX2 5
theorem nmX2 : ∀ a, a < 5 → ∀ b, b < 5 → a ≠ b → (TX2 a).2.1 ≠ (TX2 b).2.1 := by decide +kernel
theorem tyX2_ok : ∀ k, k < 5 → parseFieldDescriptor (TX2 k).2.2.1 = some (tyX2 k) := by decide +kernel
abbrev cX2_init : ByteArray := prog_4_method_1_code
def yX2_init : MethodName := ⟨RX2, "<init>", "()V"⟩
abbrev cX2_copyFrom : ByteArray := prog_4_method_2_code
def yX2_copyFrom : MethodName := ⟨RX2, "copyFrom", "(LForgeHeats$Heat;)V"⟩
def RX3 : String := "ForgeHeats$Job"
def TX3 : u_T := fun k => match k with
  | 0 => ("ForgeHeats$Job", "number", "I", false)
  | 1 => ("ForgeHeats$Job", "die", "I", false)
  | 2 => ("ForgeHeats$Job", "heat", "I", false)
  | 3 => ("ForgeHeats$Job", "pieces", "I", false)
  | 4 => ("ForgeHeats$Job", "made", "I", false)
  | 5 => ("ForgeHeats$Job", "due", "I", false)
  | 6 => ("ForgeHeats$Job", "isRush", "Z", false)
  | _ => ("ForgeHeats$Job", "billets", "I", false)
def tyX3 : Nat → FieldType := fun k => match k with
  | 0 => .int
  | 1 => .int
  | 2 => .int
  | 3 => .int
  | 4 => .int
  | 5 => .int
  | 6 => .boolean
  | _ => .int
abbrev wsX30 : List Cond := u_ws RX3 TX3 8
theorem nmX3 : ∀ a, a < 8 → ∀ b, b < 8 → a ≠ b → (TX3 a).2.1 ≠ (TX3 b).2.1 := by decide +kernel
theorem tyX3_ok : ∀ k, k < 8 → parseFieldDescriptor (TX3 k).2.2.1 = some (tyX3 k) := by decide +kernel
abbrev cX3_init : ByteArray := prog_5_method_1_code
def yX3_init : MethodName := ⟨RX3, "<init>", "()V"⟩
abbrev cX3_copyFrom : ByteArray := prog_5_method_2_code
def yX3_copyFrom : MethodName := ⟨RX3, "copyFrom", "(LForgeHeats$Job;)V"⟩
abbrev cX3_comesBefore : ByteArray := prog_5_method_3_code
def yX3_comesBefore : MethodName := ⟨RX3, "comesBefore", "(LForgeHeats$Job;)Z"⟩
abbrev cX3_lack : ByteArray := prog_5_method_4_code
def yX3_lack : MethodName := ⟨RX3, "lack", "()I"⟩
def RX4 : String := "ForgeHeats$JobText"
def TX4 : u_T := fun k => match k with
  | 0 => ("ForgeHeats$JobText", "codes", "[C", true)
  | 1 => ("ForgeHeats$JobText", "length", "I", false)
  | 2 => ("ForgeHeats$JobText", "position", "I", false)
  | 3 => ("ForgeHeats$JobText", "expected", "I", false)
  | 4 => ("ForgeHeats$JobText", "pieces", "I", false)
  | 5 => ("ForgeHeats$JobText", "die", "I", false)
  | 6 => ("ForgeHeats$JobText", "heat", "I", false)
  | 7 => ("ForgeHeats$JobText", "due", "I", false)
  | _ => ("ForgeHeats$JobText", "isRush", "Z", false)
def tyX4 : Nat → FieldType := fun k => match k with
  | 0 => .array .char
  | 1 => .int
  | 2 => .int
  | 3 => .int
  | 4 => .int
  | 5 => .int
  | 6 => .int
  | 7 => .int
  | _ => .boolean
abbrev wsX40 : List Cond := u_ws RX4 TX4 9
theorem nmX4 : ∀ a, a < 9 → ∀ b, b < 9 → a ≠ b → (TX4 a).2.1 ≠ (TX4 b).2.1 := by decide +kernel
theorem tyX4_ok : ∀ k, k < 9 → parseFieldDescriptor (TX4 k).2.2.1 = some (tyX4 k) := by decide +kernel
abbrev cX4_init : ByteArray := prog_6_method_1_code
def yX4_init : MethodName := ⟨RX4, "<init>", "()V"⟩
abbrev cX4_isFull : ByteArray := prog_6_method_2_code
def yX4_isFull : MethodName := ⟨RX4, "isFull", "()Z"⟩
abbrev cX4_put : ByteArray := prog_6_method_3_code
def yX4_put : MethodName := ⟨RX4, "put", "(I)I"⟩
abbrev cX4_empty : ByteArray := prog_6_method_4_code
def yX4_empty : MethodName := ⟨RX4, "empty", "()I"⟩
abbrev cX4_codeAt : ByteArray := prog_6_method_5_code
def yX4_codeAt : MethodName := ⟨RX4, "codeAt", "(I)I"⟩
abbrev cX4_begin : ByteArray := prog_6_method_6_code
def yX4_begin : MethodName := ⟨RX4, "begin", "()V"⟩
abbrev cX4_firstWrong : ByteArray := prog_6_method_7_code
def yX4_firstWrong : MethodName := ⟨RX4, "firstWrong", "()I"⟩
abbrev cX4_isComplete : ByteArray := prog_6_method_8_code
def yX4_isComplete : MethodName := ⟨RX4, "isComplete", "()Z"⟩
abbrev cX4_countParts : ByteArray := prog_6_method_9_code
def yX4_countParts : MethodName := ⟨RX4, "countParts", "()I"⟩
abbrev cX4_readPart : ByteArray := prog_6_method_10_code
def yX4_readPart : MethodName := ⟨RX4, "readPart", "()V"⟩
abbrev cX4_read : ByteArray := prog_6_method_11_code
def yX4_read : MethodName := ⟨RX4, "read", "(I)Z"⟩
abbrev cX4_beginPart : ByteArray := prog_6_method_12_code
def yX4_beginPart : MethodName := ⟨RX4, "beginPart", "(I)V"⟩
abbrev cX4_readMoreDue : ByteArray := prog_6_method_13_code
def yX4_readMoreDue : MethodName := ⟨RX4, "readMoreDue", "(I)Z"⟩
abbrev cX4_readEnd : ByteArray := prog_6_method_14_code
def yX4_readEnd : MethodName := ⟨RX4, "readEnd", "(I)Z"⟩
abbrev cX4_readSeparator : ByteArray := prog_6_method_15_code
def yX4_readSeparator : MethodName := ⟨RX4, "readSeparator", "(I)Z"⟩
def RX5 : String := "ForgeHeats$Shop"
def TX5 : u_T := fun k => match k with
  | 0 => ("ForgeHeats$Shop", "heats", "[LForgeHeats$Heat;", true)
  | 1 => ("ForgeHeats$Shop", "dies", "[LForgeHeats$Die;", true)
  | 2 => ("ForgeHeats$Shop", "jobs", "[LForgeHeats$Job;", true)
  | 3 => ("ForgeHeats$Shop", "furnace", "[LForgeHeats$Billet;", true)
  | 4 => ("ForgeHeats$Shop", "press", "LForgeHeats$Billet;", true)
  | 5 => ("ForgeHeats$Shop", "jobCount", "I", false)
  | 6 => ("ForgeHeats$Shop", "nextNumber", "I", false)
  | 7 => ("ForgeHeats$Shop", "warming", "I", false)
  | 8 => ("ForgeHeats$Shop", "cooling", "I", false)
  | 9 => ("ForgeHeats$Shop", "reheats", "I", false)
  | 10 => ("ForgeHeats$Shop", "grinding", "I", false)
  | 11 => ("ForgeHeats$Shop", "minutes", "I", false)
  | 12 => ("ForgeHeats$Shop", "blows", "I", false)
  | 13 => ("ForgeHeats$Shop", "goneJobs", "I", false)
  | 14 => ("ForgeHeats$Shop", "lateJobs", "I", false)
  | 15 => ("ForgeHeats$Shop", "lateMinutes", "I", false)
  | 16 => ("ForgeHeats$Shop", "noHeat", "LForgeHeats$Heat;", true)
  | 17 => ("ForgeHeats$Shop", "noDie", "LForgeHeats$Die;", true)
  | _ => ("ForgeHeats$Shop", "noJob", "LForgeHeats$Job;", true)
def tyX5 : Nat → FieldType := fun k => match k with
  | 0 => .array (.object "ForgeHeats$Heat")
  | 1 => .array (.object "ForgeHeats$Die")
  | 2 => .array (.object "ForgeHeats$Job")
  | 3 => .array (.object "ForgeHeats$Billet")
  | 4 => .object "ForgeHeats$Billet"
  | 5 => .int
  | 6 => .int
  | 7 => .int
  | 8 => .int
  | 9 => .int
  | 10 => .int
  | 11 => .int
  | 12 => .int
  | 13 => .int
  | 14 => .int
  | 15 => .int
  | 16 => .object "ForgeHeats$Heat"
  | 17 => .object "ForgeHeats$Die"
  | _ => .object "ForgeHeats$Job"
abbrev wsX50 : List Cond := u_ws RX5 TX5 19
theorem nmX5 : ∀ a, a < 19 → ∀ b, b < 19 → a ≠ b → (TX5 a).2.1 ≠ (TX5 b).2.1 := by decide +kernel
theorem tyX5_ok : ∀ k, k < 19 → parseFieldDescriptor (TX5 k).2.2.1 = some (tyX5 k) := by decide +kernel
abbrev cX5_init : ByteArray := prog_7_method_1_code
def yX5_init : MethodName := ⟨RX5, "<init>", "()V"⟩
abbrev cX5_copyFrom : ByteArray := prog_7_method_2_code
def yX5_copyFrom : MethodName := ⟨RX5, "copyFrom", "(LForgeHeats$Shop;)V"⟩
abbrev cX5_copyNumbersFrom : ByteArray := prog_7_method_3_code
def yX5_copyNumbersFrom : MethodName := ⟨RX5, "copyNumbersFrom", "(LForgeHeats$Shop;)V"⟩
abbrev cX5_heatAt : ByteArray := prog_7_method_4_code
def yX5_heatAt : MethodName := ⟨RX5, "heatAt", "(I)LForgeHeats$Heat;"⟩
abbrev cX5_dieAt : ByteArray := prog_7_method_5_code
def yX5_dieAt : MethodName := ⟨RX5, "dieAt", "(I)LForgeHeats$Die;"⟩
abbrev cX5_jobAt : ByteArray := prog_7_method_6_code
def yX5_jobAt : MethodName := ⟨RX5, "jobAt", "(I)LForgeHeats$Job;"⟩
abbrev cX5_billetAt : ByteArray := prog_7_method_7_code
def yX5_billetAt : MethodName := ⟨RX5, "billetAt", "(I)LForgeHeats$Billet;"⟩
abbrev cX5_addJob : ByteArray := prog_7_method_8_code
def yX5_addJob : MethodName := ⟨RX5, "addJob", "(IIIIZ)I"⟩
abbrev cX5_hasten : ByteArray := prog_7_method_9_code
def yX5_hasten : MethodName := ⟨RX5, "hasten", "(IZ)I"⟩
abbrev cX5_settle : ByteArray := prog_7_method_10_code
def yX5_settle : MethodName := ⟨RX5, "settle", "(I)I"⟩
abbrev cX5_swapJobs : ByteArray := prog_7_method_11_code
def yX5_swapJobs : MethodName := ⟨RX5, "swapJobs", "(II)V"⟩
abbrev cX5_placeOf : ByteArray := prog_7_method_12_code
def yX5_placeOf : MethodName := ⟨RX5, "placeOf", "(I)I"⟩
abbrev cX5_removeJob : ByteArray := prog_7_method_13_code
def yX5_removeJob : MethodName := ⟨RX5, "removeJob", "(I)V"⟩
abbrev cX5_dropJob : ByteArray := prog_7_method_14_code
def yX5_dropJob : MethodName := ⟨RX5, "dropJob", "(I)I"⟩
abbrev cX5_valueOf : ByteArray := prog_7_method_15_code
def yX5_valueOf : MethodName := ⟨RX5, "valueOf", "(I)I"⟩
abbrev cX5_putValue : ByteArray := prog_7_method_16_code
def yX5_putValue : MethodName := ⟨RX5, "putValue", "(II)V"⟩
abbrev cX5_countMade : ByteArray := prog_7_method_17_code
def yX5_countMade : MethodName := ⟨RX5, "countMade", "()I"⟩
abbrev cX5_countScrap : ByteArray := prog_7_method_18_code
def yX5_countScrap : MethodName := ⟨RX5, "countScrap", "()I"⟩
abbrev cX5_countRushJobs : ByteArray := prog_7_method_19_code
def yX5_countRushJobs : MethodName := ⟨RX5, "countRushJobs", "()I"⟩
abbrev cX5_countInFurnace : ByteArray := prog_7_method_20_code
def yX5_countInFurnace : MethodName := ⟨RX5, "countInFurnace", "()I"⟩
abbrev cX5_heatProperty : ByteArray := prog_7_method_21_code
def yX5_heatProperty : MethodName := ⟨RX5, "heatProperty", "(II)I"⟩
abbrev cX5_countBilletsOf : ByteArray := prog_7_method_22_code
def yX5_countBilletsOf : MethodName := ⟨RX5, "countBilletsOf", "(I)I"⟩
abbrev cX5_countLackOf : ByteArray := prog_7_method_23_code
def yX5_countLackOf : MethodName := ⟨RX5, "countLackOf", "(I)I"⟩
abbrev cX5_jobProperty : ByteArray := prog_7_method_24_code
def yX5_jobProperty : MethodName := ⟨RX5, "jobProperty", "(II)I"⟩
abbrev cX5_reasonToWait : ByteArray := prog_7_method_25_code
def yX5_reasonToWait : MethodName := ⟨RX5, "reasonToWait", "(LForgeHeats$Job;)I"⟩
abbrev cX5_dieBeingGround : ByteArray := prog_7_method_26_code
def yX5_dieBeingGround : MethodName := ⟨RX5, "dieBeingGround", "()I"⟩
abbrev cX5_freePlace : ByteArray := prog_7_method_27_code
def yX5_freePlace : MethodName := ⟨RX5, "freePlace", "()LForgeHeats$Billet;"⟩
abbrev cX5_hottestReady : ByteArray := prog_7_method_28_code
def yX5_hottestReady : MethodName := ⟨RX5, "hottestReady", "(LForgeHeats$Job;)LForgeHeats$Billet;"⟩
abbrev cX5_passMinutes : ByteArray := prog_7_method_29_code
def yX5_passMinutes : MethodName := ⟨RX5, "passMinutes", "(I)V"⟩
abbrev cX5_passMinute : ByteArray := prog_7_method_30_code
def yX5_passMinute : MethodName := ⟨RX5, "passMinute", "()V"⟩
abbrev cX5_warmFurnace : ByteArray := prog_7_method_31_code
def yX5_warmFurnace : MethodName := ⟨RX5, "warmFurnace", "()V"⟩
abbrev cX5_chargeFurnace : ByteArray := prog_7_method_32_code
def yX5_chargeFurnace : MethodName := ⟨RX5, "chargeFurnace", "()V"⟩
abbrev cX5_loadPress : ByteArray := prog_7_method_33_code
def yX5_loadPress : MethodName := ⟨RX5, "loadPress", "()V"⟩
abbrev cX5_workPress : ByteArray := prog_7_method_34_code
def yX5_workPress : MethodName := ⟨RX5, "workPress", "(I)V"⟩
abbrev cX5_sendBack : ByteArray := prog_7_method_35_code
def yX5_sendBack : MethodName := ⟨RX5, "sendBack", "(LForgeHeats$Job;LForgeHeats$Heat;)V"⟩
abbrev cX5_countGone : ByteArray := prog_7_method_36_code
def yX5_countGone : MethodName := ⟨RX5, "countGone", "(LForgeHeats$Job;)V"⟩
abbrev cX5_tendDies : ByteArray := prog_7_method_37_code
def yX5_tendDies : MethodName := ⟨RX5, "tendDies", "()V"⟩
def RX6 : String := "ForgeHeats"
def TX6 : u_T := fun k => match k with
  | 0 => ("ForgeHeats", "shop", "LForgeHeats$Shop;", true)
  | 1 => ("ForgeHeats", "trial", "LForgeHeats$Shop;", true)
  | 2 => ("ForgeHeats", "past", "[LForgeHeats$Shop;", true)
  | 3 => ("ForgeHeats", "pastStates", "I", false)
  | _ => ("ForgeHeats", "text", "LForgeHeats$JobText;", true)
def tyX6 : Nat → FieldType := fun k => match k with
  | 0 => .object "ForgeHeats$Shop"
  | 1 => .object "ForgeHeats$Shop"
  | 2 => .array (.object "ForgeHeats$Shop")
  | 3 => .int
  | _ => .object "ForgeHeats$JobText"
abbrev wsX60 : List Cond := u_ws RX6 TX6 5
theorem nmX6 : ∀ a, a < 5 → ∀ b, b < 5 → a ≠ b → (TX6 a).2.1 ≠ (TX6 b).2.1 := by decide +kernel
theorem tyX6_ok : ∀ k, k < 5 → parseFieldDescriptor (TX6 k).2.2.1 = some (tyX6 k) := by decide +kernel
abbrev cX6_init : ByteArray := prog_1_method_1_code
def yX6_init : MethodName := ⟨RX6, "<init>", "()V"⟩
abbrev cX6_stock : ByteArray := prog_1_method_2_code
def yX6_stock : MethodName := ⟨RX6, "stock", "(II)I"⟩
abbrev cX6_range : ByteArray := prog_1_method_3_code
def yX6_range : MethodName := ⟨RX6, "range", "(III)I"⟩
abbrev cX6_die : ByteArray := prog_1_method_4_code
def yX6_die : MethodName := ⟨RX6, "die", "(III)I"⟩
abbrev cX6_grind : ByteArray := prog_1_method_5_code
def yX6_grind : MethodName := ⟨RX6, "grind", "(I)I"⟩
abbrev cX6_job : ByteArray := prog_1_method_6_code
def yX6_job : MethodName := ⟨RX6, "job", "(IIIIZ)I"⟩
abbrev cX6_cancel : ByteArray := prog_1_method_7_code
def yX6_cancel : MethodName := ⟨RX6, "cancel", "(I)I"⟩
abbrev cX6_rush : ByteArray := prog_1_method_8_code
def yX6_rush : MethodName := ⟨RX6, "rush", "(IZ)I"⟩
abbrev cX6_set : ByteArray := prog_1_method_9_code
def yX6_set : MethodName := ⟨RX6, "set", "(II)I"⟩
abbrev cX6_pass : ByteArray := prog_1_method_10_code
def yX6_pass : MethodName := ⟨RX6, "pass", "(I)I"⟩
abbrev cX6_append : ByteArray := prog_1_method_11_code
def yX6_append : MethodName := ⟨RX6, "append", "(I)I"⟩
abbrev cX6_clearBuffer : ByteArray := prog_1_method_12_code
def yX6_clearBuffer : MethodName := ⟨RX6, "clearBuffer", "()I"⟩
abbrev cX6_firstError : ByteArray := prog_1_method_13_code
def yX6_firstError : MethodName := ⟨RX6, "firstError", "()I"⟩
abbrev cX6_addAll : ByteArray := prog_1_method_14_code
def yX6_addAll : MethodName := ⟨RX6, "addAll", "()I"⟩
abbrev cX6_undo : ByteArray := prog_1_method_15_code
def yX6_undo : MethodName := ⟨RX6, "undo", "()I"⟩
abbrev cX6_heat : ByteArray := prog_1_method_16_code
def yX6_heat : MethodName := ⟨RX6, "heat", "(II)I"⟩
abbrev cX6_dieOf : ByteArray := prog_1_method_17_code
def yX6_dieOf : MethodName := ⟨RX6, "dieOf", "(II)I"⟩
abbrev cX6_jobOf : ByteArray := prog_1_method_18_code
def yX6_jobOf : MethodName := ⟨RX6, "jobOf", "(II)I"⟩
abbrev cX6_billet : ByteArray := prog_1_method_19_code
def yX6_billet : MethodName := ⟨RX6, "billet", "(II)I"⟩
abbrev cX6_count : ByteArray := prog_1_method_20_code
def yX6_count : MethodName := ⟨RX6, "count", "(I)I"⟩
abbrev cX6_setting : ByteArray := prog_1_method_21_code
def yX6_setting : MethodName := ⟨RX6, "setting", "(I)I"⟩
abbrev cX6_ifPassed : ByteArray := prog_1_method_22_code
def yX6_ifPassed : MethodName := ⟨RX6, "ifPassed", "(II)I"⟩
abbrev cX6_doneIn : ByteArray := prog_1_method_23_code
def yX6_doneIn : MethodName := ⟨RX6, "doneIn", "(I)I"⟩
abbrev cX6_ifRush : ByteArray := prog_1_method_24_code
def yX6_ifRush : MethodName := ⟨RX6, "ifRush", "(I)I"⟩
abbrev cX6_bestReheats : ByteArray := prog_1_method_25_code
def yX6_bestReheats : MethodName := ⟨RX6, "bestReheats", "(I)I"⟩
abbrev cX6_saved : ByteArray := prog_1_method_26_code
def yX6_saved : MethodName := ⟨RX6, "saved", "()D"⟩
abbrev cX6_digest : ByteArray := prog_1_method_27_code
def yX6_digest : MethodName := ⟨RX6, "digest", "()J"⟩
abbrev cX6_isWithin : ByteArray := prog_1_method_28_code
def yX6_isWithin : MethodName := ⟨RX6, "isWithin", "(III)Z"⟩
abbrev cX6_leastValue : ByteArray := prog_1_method_29_code
def yX6_leastValue : MethodName := ⟨RX6, "leastValue", "(I)I"⟩
abbrev cX6_mostValue : ByteArray := prog_1_method_30_code
def yX6_mostValue : MethodName := ⟨RX6, "mostValue", "(I)I"⟩
abbrev cX6_remember : ByteArray := prog_1_method_31_code
def yX6_remember : MethodName := ⟨RX6, "remember", "()V"⟩
abbrev cX6_dropOldest : ByteArray := prog_1_method_32_code
def yX6_dropOldest : MethodName := ⟨RX6, "dropOldest", "()V"⟩
abbrev cX6_pastAt : ByteArray := prog_1_method_33_code
def yX6_pastAt : MethodName := ⟨RX6, "pastAt", "(I)LForgeHeats$Shop;"⟩
abbrev cX6_numberOf : ByteArray := prog_1_method_34_code
def yX6_numberOf : MethodName := ⟨RX6, "numberOf", "(I)I"⟩
abbrev cX6_foresee : ByteArray := prog_1_method_35_code
def yX6_foresee : MethodName := ⟨RX6, "foresee", "(I)V"⟩
abbrev cX6_foreseen : ByteArray := prog_1_method_36_code
def yX6_foreseen : MethodName := ⟨RX6, "foreseen", "(I)I"⟩
abbrev cX6_goneBehind : ByteArray := prog_1_method_37_code
def yX6_goneBehind : MethodName := ⟨RX6, "goneBehind", "(I)I"⟩
abbrev cX6_gainByHaste : ByteArray := prog_1_method_38_code
def yX6_gainByHaste : MethodName := ⟨RX6, "gainByHaste", "(II)I"⟩
abbrev cX6_passUntilGone : ByteArray := prog_1_method_39_code
def yX6_passUntilGone : MethodName := ⟨RX6, "passUntilGone", "(I)I"⟩
abbrev cX6_bestNumberOfReheats : ByteArray := prog_1_method_40_code
def yX6_bestNumberOfReheats : MethodName := ⟨RX6, "bestNumberOfReheats", "(I)I"⟩
abbrev cX6_shareMade : ByteArray := prog_1_method_41_code
def yX6_shareMade : MethodName := ⟨RX6, "shareMade", "()D"⟩
abbrev cX6_bitsOf : ByteArray := prog_1_method_42_code
def yX6_bitsOf : MethodName := ⟨RX6, "bitsOf", "(D)J"⟩
abbrev cX6_mix : ByteArray := prog_1_method_43_code
def yX6_mix : MethodName := ⟨RX6, "mix", "(JJ)J"⟩
abbrev cX6_mixEquipment : ByteArray := prog_1_method_44_code
def yX6_mixEquipment : MethodName := ⟨RX6, "mixEquipment", "(J)J"⟩
abbrev cX6_mixJobs : ByteArray := prog_1_method_45_code
def yX6_mixJobs : MethodName := ⟨RX6, "mixJobs", "(J)J"⟩
def RX7 : String := "ForgeHeatsModel"
def TX7 : u_T := fun k => match k with
  | 0 => ("ForgeHeatsModel", "thrown", "I", false)
  | 1 => ("ForgeHeatsModel", "s", "[I", true)
  | 2 => ("ForgeHeatsModel", "aside", "[I", true)
  | 3 => ("ForgeHeatsModel", "saved", "[I", true)
  | 4 => ("ForgeHeatsModel", "savedMany", "I", false)
  | 5 => ("ForgeHeatsModel", "buffer", "[I", true)
  | 6 => ("ForgeHeatsModel", "length", "I", false)
  | 7 => ("ForgeHeatsModel", "at", "I", false)
  | 8 => ("ForgeHeatsModel", "isWell", "Z", false)
  | 9 => ("ForgeHeatsModel", "told", "[I", true)
  | 10 => ("ForgeHeatsModel", "toldMany", "I", false)
  | _ => ("ForgeHeatsModel", "hash", "J", false)
def tyX7 : Nat → FieldType := fun k => match k with
  | 0 => .int
  | 1 => .array .int
  | 2 => .array .int
  | 3 => .array .int
  | 4 => .int
  | 5 => .array .int
  | 6 => .int
  | 7 => .int
  | 8 => .boolean
  | 9 => .array .int
  | 10 => .int
  | _ => .long
abbrev wsX70 : List Cond := u_ws RX7 TX7 12
theorem nmX7 : ∀ a, a < 12 → ∀ b, b < 12 → a ≠ b → (TX7 a).2.1 ≠ (TX7 b).2.1 := by decide +kernel
theorem tyX7_ok : ∀ k, k < 12 → parseFieldDescriptor (TX7 k).2.2.1 = some (tyX7 k) := by decide +kernel
abbrev cX7_init : ByteArray := prog_9_method_1_code
def yX7_init : MethodName := ⟨RX7, "<init>", "()V"⟩
abbrev cX7_thrown : ByteArray := prog_9_method_2_code
def yX7_thrown : MethodName := ⟨RX7, "thrown", "()I"⟩
abbrev cX7_in : ByteArray := prog_9_method_3_code
def yX7_in : MethodName := ⟨RX7, "in", "(III)Z"⟩
abbrev cX7_fails : ByteArray := prog_9_method_4_code
def yX7_fails : MethodName := ⟨RX7, "fails", "(I)I"⟩
abbrev cX7_isHeat : ByteArray := prog_9_method_5_code
def yX7_isHeat : MethodName := ⟨RX7, "isHeat", "(I)Z"⟩
abbrev cX7_isDie : ByteArray := prog_9_method_6_code
def yX7_isDie : MethodName := ⟨RX7, "isDie", "(I)Z"⟩
abbrev cX7_saves : ByteArray := prog_9_method_7_code
def yX7_saves : MethodName := ⟨RX7, "saves", "()V"⟩
abbrev cX7_putAside : ByteArray := prog_9_method_8_code
def yX7_putAside : MethodName := ⟨RX7, "putAside", "()V"⟩
abbrev cX7_takeBack : ByteArray := prog_9_method_9_code
def yX7_takeBack : MethodName := ⟨RX7, "takeBack", "()V"⟩
abbrev cX7_heatOf : ByteArray := prog_9_method_10_code
def yX7_heatOf : MethodName := ⟨RX7, "heatOf", "(II)I"⟩
abbrev cX7_die0 : ByteArray := prog_9_method_11_code
def yX7_die0 : MethodName := ⟨RX7, "die0", "(II)I"⟩
abbrev cX7_job0 : ByteArray := prog_9_method_12_code
def yX7_job0 : MethodName := ⟨RX7, "job0", "(II)I"⟩
abbrev cX7_billet0 : ByteArray := prog_9_method_13_code
def yX7_billet0 : MethodName := ⟨RX7, "billet0", "(II)I"⟩
abbrev cX7_lay : ByteArray := prog_9_method_14_code
def yX7_lay : MethodName := ⟨RX7, "lay", "(III)V"⟩
abbrev cX7_isBeingGround : ByteArray := prog_9_method_15_code
def yX7_isBeingGround : MethodName := ⟨RX7, "isBeingGround", "(I)Z"⟩
abbrev cX7_isWornOut : ByteArray := prog_9_method_16_code
def yX7_isWornOut : MethodName := ⟨RX7, "isWornOut", "(I)Z"⟩
abbrev cX7_isFit : ByteArray := prog_9_method_17_code
def yX7_isFit : MethodName := ⟨RX7, "isFit", "(I)Z"⟩
abbrev cX7_jobWith : ByteArray := prog_9_method_18_code
def yX7_jobWith : MethodName := ⟨RX7, "jobWith", "(I)I"⟩
abbrev cX7_isAhead : ByteArray := prog_9_method_19_code
def yX7_isAhead : MethodName := ⟨RX7, "isAhead", "(II)Z"⟩
abbrev cX7_rankOf : ByteArray := prog_9_method_20_code
def yX7_rankOf : MethodName := ⟨RX7, "rankOf", "(I)I"⟩
abbrev cX7_jobAt : ByteArray := prog_9_method_21_code
def yX7_jobAt : MethodName := ⟨RX7, "jobAt", "(I)I"⟩
abbrev cX7_jobOn : ByteArray := prog_9_method_22_code
def yX7_jobOn : MethodName := ⟨RX7, "jobOn", "(I)I"⟩
abbrev cX7_billetsOf : ByteArray := prog_9_method_23_code
def yX7_billetsOf : MethodName := ⟨RX7, "billetsOf", "(III)I"⟩
abbrev cX7_lacks : ByteArray := prog_9_method_24_code
def yX7_lacks : MethodName := ⟨RX7, "lacks", "(I)I"⟩
abbrev cX7_freePlace : ByteArray := prog_9_method_25_code
def yX7_freePlace : MethodName := ⟨RX7, "freePlace", "()I"⟩
abbrev cX7_clears : ByteArray := prog_9_method_26_code
def yX7_clears : MethodName := ⟨RX7, "clears", "(I)V"⟩
abbrev cX7_moves : ByteArray := prog_9_method_27_code
def yX7_moves : MethodName := ⟨RX7, "moves", "(II)V"⟩
abbrev cX7_scraps : ByteArray := prog_9_method_28_code
def yX7_scraps : MethodName := ⟨RX7, "scraps", "(I)V"⟩
abbrev cX7_dropsJob : ByteArray := prog_9_method_29_code
def yX7_dropsJob : MethodName := ⟨RX7, "dropsJob", "(I)V"⟩
abbrev cX7_warms : ByteArray := prog_9_method_30_code
def yX7_warms : MethodName := ⟨RX7, "warms", "()V"⟩
abbrev cX7_loads : ByteArray := prog_9_method_31_code
def yX7_loads : MethodName := ⟨RX7, "loads", "()V"⟩
abbrev cX7_goesBack : ByteArray := prog_9_method_32_code
def yX7_goesBack : MethodName := ⟨RX7, "goesBack", "()V"⟩
abbrev cX7_makes : ByteArray := prog_9_method_33_code
def yX7_makes : MethodName := ⟨RX7, "makes", "(I)V"⟩
abbrev cX7_presses : ByteArray := prog_9_method_34_code
def yX7_presses : MethodName := ⟨RX7, "presses", "(I)V"⟩
abbrev cX7_hottest : ByteArray := prog_9_method_35_code
def yX7_hottest : MethodName := ⟨RX7, "hottest", "(I)I"⟩
abbrev cX7_takes : ByteArray := prog_9_method_36_code
def yX7_takes : MethodName := ⟨RX7, "takes", "()V"⟩
abbrev cX7_grinds : ByteArray := prog_9_method_37_code
def yX7_grinds : MethodName := ⟨RX7, "grinds", "()V"⟩
abbrev cX7_begins : ByteArray := prog_9_method_38_code
def yX7_begins : MethodName := ⟨RX7, "begins", "(I)V"⟩
abbrev cX7_minute : ByteArray := prog_9_method_39_code
def yX7_minute : MethodName := ⟨RX7, "minute", "()V"⟩
abbrev cX7_minutes : ByteArray := prog_9_method_40_code
def yX7_minutes : MethodName := ⟨RX7, "minutes", "(I)I"⟩
abbrev cX7_stock : ByteArray := prog_9_method_41_code
def yX7_stock : MethodName := ⟨RX7, "stock", "(II)I"⟩
abbrev cX7_range : ByteArray := prog_9_method_42_code
def yX7_range : MethodName := ⟨RX7, "range", "(III)I"⟩
abbrev cX7_die : ByteArray := prog_9_method_43_code
def yX7_die : MethodName := ⟨RX7, "die", "(III)I"⟩
abbrev cX7_grind : ByteArray := prog_9_method_44_code
def yX7_grind : MethodName := ⟨RX7, "grind", "(I)I"⟩
abbrev cX7_comes : ByteArray := prog_9_method_45_code
def yX7_comes : MethodName := ⟨RX7, "comes", "(IIIII)V"⟩
abbrev cX7_job : ByteArray := prog_9_method_46_code
def yX7_job : MethodName := ⟨RX7, "job", "(IIIIZ)I"⟩
abbrev cX7_cancel : ByteArray := prog_9_method_47_code
def yX7_cancel : MethodName := ⟨RX7, "cancel", "(I)I"⟩
abbrev cX7_rush : ByteArray := prog_9_method_48_code
def yX7_rush : MethodName := ⟨RX7, "rush", "(IZ)I"⟩
abbrev cX7_isSetting : ByteArray := prog_9_method_49_code
def yX7_isSetting : MethodName := ⟨RX7, "isSetting", "(II)Z"⟩
abbrev cX7_set : ByteArray := prog_9_method_50_code
def yX7_set : MethodName := ⟨RX7, "set", "(II)I"⟩
abbrev cX7_pass : ByteArray := prog_9_method_51_code
def yX7_pass : MethodName := ⟨RX7, "pass", "(I)I"⟩
abbrev cX7_append : ByteArray := prog_9_method_52_code
def yX7_append : MethodName := ⟨RX7, "append", "(I)I"⟩
abbrev cX7_clearBuffer : ByteArray := prog_9_method_53_code
def yX7_clearBuffer : MethodName := ⟨RX7, "clearBuffer", "()I"⟩
abbrev cX7_sign : ByteArray := prog_9_method_54_code
def yX7_sign : MethodName := ⟨RX7, "sign", "()I"⟩
abbrev cX7_takesSign : ByteArray := prog_9_method_55_code
def yX7_takesSign : MethodName := ⟨RX7, "takesSign", "(I)Z"⟩
abbrev cX7_number : ByteArray := prog_9_method_56_code
def yX7_number : MethodName := ⟨RX7, "number", "(II)I"⟩
abbrev cX7_readsPart : ByteArray := prog_9_method_57_code
def yX7_readsPart : MethodName := ⟨RX7, "readsPart", "()V"⟩
abbrev cX7_readsAll : ByteArray := prog_9_method_58_code
def yX7_readsAll : MethodName := ⟨RX7, "readsAll", "()V"⟩
abbrev cX7_firstError : ByteArray := prog_9_method_59_code
def yX7_firstError : MethodName := ⟨RX7, "firstError", "()I"⟩
abbrev cX7_addAll : ByteArray := prog_9_method_60_code
def yX7_addAll : MethodName := ⟨RX7, "addAll", "()I"⟩
abbrev cX7_undo : ByteArray := prog_9_method_61_code
def yX7_undo : MethodName := ⟨RX7, "undo", "()I"⟩
abbrev cX7_billetsWith : ByteArray := prog_9_method_62_code
def yX7_billetsWith : MethodName := ⟨RX7, "billetsWith", "(I)I"⟩
abbrev cX7_lackedWith : ByteArray := prog_9_method_63_code
def yX7_lackedWith : MethodName := ⟨RX7, "lackedWith", "(I)I"⟩
abbrev cX7_tellsHeat : ByteArray := prog_9_method_64_code
def yX7_tellsHeat : MethodName := ⟨RX7, "tellsHeat", "(II)I"⟩
abbrev cX7_heat : ByteArray := prog_9_method_65_code
def yX7_heat : MethodName := ⟨RX7, "heat", "(II)I"⟩
abbrev cX7_tellsDie : ByteArray := prog_9_method_66_code
def yX7_tellsDie : MethodName := ⟨RX7, "tellsDie", "(II)I"⟩
abbrev cX7_dieOf : ByteArray := prog_9_method_67_code
def yX7_dieOf : MethodName := ⟨RX7, "dieOf", "(II)I"⟩
abbrev cX7_reason : ByteArray := prog_9_method_68_code
def yX7_reason : MethodName := ⟨RX7, "reason", "(I)I"⟩
abbrev cX7_tellsJob : ByteArray := prog_9_method_69_code
def yX7_tellsJob : MethodName := ⟨RX7, "tellsJob", "(II)I"⟩
abbrev cX7_jobOf : ByteArray := prog_9_method_70_code
def yX7_jobOf : MethodName := ⟨RX7, "jobOf", "(II)I"⟩
abbrev cX7_tellsBillet : ByteArray := prog_9_method_71_code
def yX7_tellsBillet : MethodName := ⟨RX7, "tellsBillet", "(II)I"⟩
abbrev cX7_billet : ByteArray := prog_9_method_72_code
def yX7_billet : MethodName := ⟨RX7, "billet", "(II)I"⟩
abbrev cX7_rushJobs : ByteArray := prog_9_method_73_code
def yX7_rushJobs : MethodName := ⟨RX7, "rushJobs", "()I"⟩
abbrev cX7_inFurnace : ByteArray := prog_9_method_74_code
def yX7_inFurnace : MethodName := ⟨RX7, "inFurnace", "()I"⟩
abbrev cX7_counts : ByteArray := prog_9_method_75_code
def yX7_counts : MethodName := ⟨RX7, "counts", "(I)I"⟩
abbrev cX7_count : ByteArray := prog_9_method_76_code
def yX7_count : MethodName := ⟨RX7, "count", "(I)I"⟩
abbrev cX7_setting : ByteArray := prog_9_method_77_code
def yX7_setting : MethodName := ⟨RX7, "setting", "(I)I"⟩
abbrev cX7_passed : ByteArray := prog_9_method_78_code
def yX7_passed : MethodName := ⟨RX7, "passed", "(II)I"⟩
abbrev cX7_ifPassed : ByteArray := prog_9_method_79_code
def yX7_ifPassed : MethodName := ⟨RX7, "ifPassed", "(II)I"⟩
abbrev cX7_untilGone : ByteArray := prog_9_method_80_code
def yX7_untilGone : MethodName := ⟨RX7, "untilGone", "(IZ)I"⟩
abbrev cX7_doneIn : ByteArray := prog_9_method_81_code
def yX7_doneIn : MethodName := ⟨RX7, "doneIn", "(I)I"⟩
abbrev cX7_earlier : ByteArray := prog_9_method_82_code
def yX7_earlier : MethodName := ⟨RX7, "earlier", "(I)I"⟩
abbrev cX7_ifRush : ByteArray := prog_9_method_83_code
def yX7_ifRush : MethodName := ⟨RX7, "ifRush", "(I)I"⟩
abbrev cX7_reheatsFor : ByteArray := prog_9_method_84_code
def yX7_reheatsFor : MethodName := ⟨RX7, "reheatsFor", "(I)I"⟩
abbrev cX7_bestReheats : ByteArray := prog_9_method_85_code
def yX7_bestReheats : MethodName := ⟨RX7, "bestReheats", "(I)I"⟩
abbrev cX7_saved : ByteArray := prog_9_method_86_code
def yX7_saved : MethodName := ⟨RX7, "saved", "()D"⟩
abbrev cX7_hashes : ByteArray := prog_9_method_87_code
def yX7_hashes : MethodName := ⟨RX7, "hashes", "(J)V"⟩
abbrev cX7_hashesShop : ByteArray := prog_9_method_88_code
def yX7_hashesShop : MethodName := ⟨RX7, "hashesShop", "()V"⟩
abbrev cX7_digest : ByteArray := prog_9_method_89_code
def yX7_digest : MethodName := ⟨RX7, "digest", "()J"⟩
def RJxe99ae : String := "java/lang/Double"
def TJxe99ae : u_T := fun k => match k with
  | _ => ("", "", "", false)
def tyJxe99ae : Nat → FieldType := fun k => match k with
  | _ => .int
abbrev wsJxe99ae0 : List Cond := u_ws RJxe99ae TJxe99ae 0
abbrev cJxe99ae_isNaN_b9ae7 : ByteArray := prog_10_method_6_code
def yJxe99ae_isNaN_b9ae7 : MethodName := ⟨RJxe99ae, "isNaN", "(D)Z"⟩
abbrev cJxe99ae_doubleToLongBits_ccdee : ByteArray := prog_10_method_23_code
def yJxe99ae_doubleToLongBits_ccdee : MethodName := ⟨RJxe99ae, "doubleToLongBits", "(D)J"⟩
def RJ9 : String := "java/lang/Math"
def TJ9 : u_T := fun k => match k with
  | _ => ("", "", "", false)
def tyJ9 : Nat → FieldType := fun k => match k with
  | _ => .int
abbrev wsJ90 : List Cond := u_ws RJ9 TJ9 0
abbrev cJ9_max_7cf53 : ByteArray := prog_15_method_65_code
def yJ9_max_7cf53 : MethodName := ⟨RJ9, "max", "(II)I"⟩
abbrev cJ9_min_7cf53 : ByteArray := prog_15_method_69_code
def yJ9_min_7cf53 : MethodName := ⟨RJ9, "min", "(II)I"⟩
def RJ0 : String := "java/lang/String"
def TJ0 : u_T := fun k => match k with
  | _ => ("", "", "", false)
def tyJ0 : Nat → FieldType := fun k => match k with
  | _ => .int
abbrev wsJ00 : List Cond := u_ws RJ0 TJ0 0
def RL : String := "ForgeHeatsLaw"
abbrev cL_stock : ByteArray := method_3_code
def yL_stock : MethodName := ⟨RL, "stock", "(LForgeHeats;II[J)I"⟩
abbrev cL_range : ByteArray := method_4_code
def yL_range : MethodName := ⟨RL, "range", "(LForgeHeats;III[J)I"⟩
abbrev cL_die : ByteArray := method_5_code
def yL_die : MethodName := ⟨RL, "die", "(LForgeHeats;III[J)I"⟩
abbrev cL_grind : ByteArray := method_6_code
def yL_grind : MethodName := ⟨RL, "grind", "(LForgeHeats;I[J)I"⟩
abbrev cL_job : ByteArray := method_7_code
def yL_job : MethodName := ⟨RL, "job", "(LForgeHeats;IIIIZ[J)I"⟩
abbrev cL_cancel : ByteArray := method_8_code
def yL_cancel : MethodName := ⟨RL, "cancel", "(LForgeHeats;I[J)I"⟩
abbrev cL_rush : ByteArray := method_9_code
def yL_rush : MethodName := ⟨RL, "rush", "(LForgeHeats;IZ[J)I"⟩
abbrev cL_set : ByteArray := method_10_code
def yL_set : MethodName := ⟨RL, "set", "(LForgeHeats;II[J)I"⟩
abbrev cL_pass : ByteArray := method_11_code
def yL_pass : MethodName := ⟨RL, "pass", "(LForgeHeats;I[J)I"⟩
abbrev cL_append : ByteArray := method_12_code
def yL_append : MethodName := ⟨RL, "append", "(LForgeHeats;I[J)I"⟩
abbrev cL_addAll : ByteArray := method_13_code
def yL_addAll : MethodName := ⟨RL, "addAll", "(LForgeHeats;[J)I"⟩
abbrev cL_undo : ByteArray := method_14_code
def yL_undo : MethodName := ⟨RL, "undo", "(LForgeHeats;[J)I"⟩
abbrev cL_heat : ByteArray := method_15_code
def yL_heat : MethodName := ⟨RL, "heat", "(LForgeHeats;II[J)I"⟩
abbrev cL_dieOf : ByteArray := method_16_code
def yL_dieOf : MethodName := ⟨RL, "dieOf", "(LForgeHeats;II[J)I"⟩
abbrev cL_jobOf : ByteArray := method_17_code
def yL_jobOf : MethodName := ⟨RL, "jobOf", "(LForgeHeats;II[J)I"⟩
abbrev cL_billet : ByteArray := method_18_code
def yL_billet : MethodName := ⟨RL, "billet", "(LForgeHeats;II[J)I"⟩
abbrev cL_count : ByteArray := method_19_code
def yL_count : MethodName := ⟨RL, "count", "(LForgeHeats;I[J)I"⟩
abbrev cL_setting : ByteArray := method_20_code
def yL_setting : MethodName := ⟨RL, "setting", "(LForgeHeats;I[J)I"⟩
abbrev cL_ifPassed : ByteArray := method_21_code
def yL_ifPassed : MethodName := ⟨RL, "ifPassed", "(LForgeHeats;II[J)I"⟩
abbrev cL_doneIn : ByteArray := method_22_code
def yL_doneIn : MethodName := ⟨RL, "doneIn", "(LForgeHeats;I[J)I"⟩
abbrev cL_ifRush : ByteArray := method_23_code
def yL_ifRush : MethodName := ⟨RL, "ifRush", "(LForgeHeats;I[J)I"⟩
abbrev cL_bestReheats : ByteArray := method_24_code
def yL_bestReheats : MethodName := ⟨RL, "bestReheats", "(LForgeHeats;I[J)I"⟩
abbrev cL_law : ByteArray := code
def yL_law : MethodName := ⟨RL, "law", "([I)Z"⟩
