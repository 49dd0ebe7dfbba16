section
-- ===== PART A: goes FIRST, ahead of the names: the tables' words, and 'selects' of the private methods out of them =====
/-- a private method of a class that the tables say can be made, by its rows of tables_1 -/
def lw_okq (q : MethodName × Nat) : Prop := (q.1.cls ≠ "java/lang/invoke/MethodHandle" ∧ q.1.cls ≠ "java/lang/invoke/VarHandle") ∧ Cond.instantiable q.1.cls q.2 ∈ tables_1 ∧ Cond.privateMethod q.1 ∈ tables_1 ∧ Cond.instanceMethod q.1 ∈ tables_1
theorem lw_p0 : lw_okq (⟨"ForgeHeats$JobText", "read", "(I)Z"⟩, 9) := ⟨⟨by decide +kernel, by decide +kernel⟩, List.mem_of_getElem? (i := 229) (by decide +kernel), List.mem_of_getElem? (i := 310) (by decide +kernel), List.mem_of_getElem? (i := 311) (by decide +kernel)⟩
theorem lw_p1 : lw_okq (⟨"ForgeHeats$JobText", "beginPart", "(I)V"⟩, 9) := ⟨⟨by decide +kernel, by decide +kernel⟩, List.mem_of_getElem? (i := 229) (by decide +kernel), List.mem_of_getElem? (i := 314) (by decide +kernel), List.mem_of_getElem? (i := 315) (by decide +kernel)⟩
theorem lw_p2 : lw_okq (⟨"ForgeHeats$JobText", "readEnd", "(I)Z"⟩, 9) := ⟨⟨by decide +kernel, by decide +kernel⟩, List.mem_of_getElem? (i := 229) (by decide +kernel), List.mem_of_getElem? (i := 318) (by decide +kernel), List.mem_of_getElem? (i := 319) (by decide +kernel)⟩
theorem lw_p3 : lw_okq (⟨"ForgeHeats$JobText", "readSeparator", "(I)Z"⟩, 9) := ⟨⟨by decide +kernel, by decide +kernel⟩, List.mem_of_getElem? (i := 229) (by decide +kernel), List.mem_of_getElem? (i := 322) (by decide +kernel), List.mem_of_getElem? (i := 323) (by decide +kernel)⟩
theorem lw_p4 : lw_okq (⟨"ForgeHeats$JobText", "readMoreDue", "(I)Z"⟩, 9) := ⟨⟨by decide +kernel, by decide +kernel⟩, List.mem_of_getElem? (i := 229) (by decide +kernel), List.mem_of_getElem? (i := 326) (by decide +kernel), List.mem_of_getElem? (i := 327) (by decide +kernel)⟩
theorem lw_p5 : lw_okq (⟨"ForgeHeats", "shareMade", "()D"⟩, 5) := ⟨⟨by decide +kernel, by decide +kernel⟩, List.mem_of_getElem? (i := 18) (by decide +kernel), List.mem_of_getElem? (i := 334) (by decide +kernel), List.mem_of_getElem? (i := 335) (by decide +kernel)⟩
theorem lw_p6 : lw_okq (⟨"ForgeHeats", "numberOf", "(I)I"⟩, 5) := ⟨⟨by decide +kernel, by decide +kernel⟩, List.mem_of_getElem? (i := 18) (by decide +kernel), List.mem_of_getElem? (i := 355) (by decide +kernel), List.mem_of_getElem? (i := 356) (by decide +kernel)⟩
theorem lw_p7 : lw_okq (⟨"ForgeHeats", "mixEquipment", "(J)J"⟩, 5) := ⟨⟨by decide +kernel, by decide +kernel⟩, List.mem_of_getElem? (i := 18) (by decide +kernel), List.mem_of_getElem? (i := 387) (by decide +kernel), List.mem_of_getElem? (i := 388) (by decide +kernel)⟩
theorem lw_p8 : lw_okq (⟨"ForgeHeats$Shop", "countBilletsOf", "(I)I"⟩, 19) := ⟨⟨by decide +kernel, by decide +kernel⟩, List.mem_of_getElem? (i := 26) (by decide +kernel), List.mem_of_getElem? (i := 399) (by decide +kernel), List.mem_of_getElem? (i := 400) (by decide +kernel)⟩
theorem lw_p9 : lw_okq (⟨"ForgeHeats$Shop", "countLackOf", "(I)I"⟩, 19) := ⟨⟨by decide +kernel, by decide +kernel⟩, List.mem_of_getElem? (i := 26) (by decide +kernel), List.mem_of_getElem? (i := 403) (by decide +kernel), List.mem_of_getElem? (i := 404) (by decide +kernel)⟩
theorem lw_p10 : lw_okq (⟨"ForgeHeats", "mixJobs", "(J)J"⟩, 5) := ⟨⟨by decide +kernel, by decide +kernel⟩, List.mem_of_getElem? (i := 18) (by decide +kernel), List.mem_of_getElem? (i := 424) (by decide +kernel), List.mem_of_getElem? (i := 425) (by decide +kernel)⟩
theorem lw_p11 : lw_okq (⟨"ForgeHeats$Shop", "reasonToWait", "(LForgeHeats$Job;)I"⟩, 19) := ⟨⟨by decide +kernel, by decide +kernel⟩, List.mem_of_getElem? (i := 26) (by decide +kernel), List.mem_of_getElem? (i := 432) (by decide +kernel), List.mem_of_getElem? (i := 433) (by decide +kernel)⟩
theorem lw_p12 : lw_okq (⟨"ForgeHeats$Shop", "hottestReady", "(LForgeHeats$Job;)LForgeHeats$Billet;"⟩, 19) := ⟨⟨by decide +kernel, by decide +kernel⟩, List.mem_of_getElem? (i := 26) (by decide +kernel), List.mem_of_getElem? (i := 440) (by decide +kernel), List.mem_of_getElem? (i := 441) (by decide +kernel)⟩
theorem lw_p13 : lw_okq (⟨"ForgeHeats", "goneBehind", "(I)I"⟩, 5) := ⟨⟨by decide +kernel, by decide +kernel⟩, List.mem_of_getElem? (i := 18) (by decide +kernel), List.mem_of_getElem? (i := 445) (by decide +kernel), List.mem_of_getElem? (i := 446) (by decide +kernel)⟩
theorem lw_p14 : lw_okq (⟨"ForgeHeats$Shop", "copyNumbersFrom", "(LForgeHeats$Shop;)V"⟩, 19) := ⟨⟨by decide +kernel, by decide +kernel⟩, List.mem_of_getElem? (i := 26) (by decide +kernel), List.mem_of_getElem? (i := 470) (by decide +kernel), List.mem_of_getElem? (i := 471) (by decide +kernel)⟩
theorem lw_p15 : lw_okq (⟨"ForgeHeats", "passUntilGone", "(I)I"⟩, 5) := ⟨⟨by decide +kernel, by decide +kernel⟩, List.mem_of_getElem? (i := 18) (by decide +kernel), List.mem_of_getElem? (i := 474) (by decide +kernel), List.mem_of_getElem? (i := 475) (by decide +kernel)⟩
def lw_privs_1 : List (MethodName × Nat) := [(⟨"ForgeHeats$JobText", "read", "(I)Z"⟩, 9), (⟨"ForgeHeats$JobText", "beginPart", "(I)V"⟩, 9), (⟨"ForgeHeats$JobText", "readEnd", "(I)Z"⟩, 9), (⟨"ForgeHeats$JobText", "readSeparator", "(I)Z"⟩, 9), (⟨"ForgeHeats$JobText", "readMoreDue", "(I)Z"⟩, 9), (⟨"ForgeHeats", "shareMade", "()D"⟩, 5), (⟨"ForgeHeats", "numberOf", "(I)I"⟩, 5), (⟨"ForgeHeats", "mixEquipment", "(J)J"⟩, 5), (⟨"ForgeHeats$Shop", "countBilletsOf", "(I)I"⟩, 19), (⟨"ForgeHeats$Shop", "countLackOf", "(I)I"⟩, 19), (⟨"ForgeHeats", "mixJobs", "(J)J"⟩, 5), (⟨"ForgeHeats$Shop", "reasonToWait", "(LForgeHeats$Job;)I"⟩, 19), (⟨"ForgeHeats$Shop", "hottestReady", "(LForgeHeats$Job;)LForgeHeats$Billet;"⟩, 19), (⟨"ForgeHeats", "goneBehind", "(I)I"⟩, 5), (⟨"ForgeHeats$Shop", "copyNumbersFrom", "(LForgeHeats$Shop;)V"⟩, 19), (⟨"ForgeHeats", "passUntilGone", "(I)I"⟩, 5)]
theorem lw_r1 : ∀ q ∈ lw_privs_1, lw_okq q := List.forall_mem_cons.mpr ⟨lw_p0, List.forall_mem_cons.mpr ⟨lw_p1, List.forall_mem_cons.mpr ⟨lw_p2, List.forall_mem_cons.mpr ⟨lw_p3, List.forall_mem_cons.mpr ⟨lw_p4, List.forall_mem_cons.mpr ⟨lw_p5, List.forall_mem_cons.mpr ⟨lw_p6, List.forall_mem_cons.mpr ⟨lw_p7, List.forall_mem_cons.mpr ⟨lw_p8, List.forall_mem_cons.mpr ⟨lw_p9, List.forall_mem_cons.mpr ⟨lw_p10, List.forall_mem_cons.mpr ⟨lw_p11, List.forall_mem_cons.mpr ⟨lw_p12, List.forall_mem_cons.mpr ⟨lw_p13, List.forall_mem_cons.mpr ⟨lw_p14, List.forall_mem_cons.mpr ⟨lw_p15, fun _ h => absurd h List.not_mem_nil⟩⟩⟩⟩⟩⟩⟩⟩⟩⟩⟩⟩⟩⟩⟩⟩
theorem lw_p16 : lw_okq (⟨"ForgeHeats$Shop", "warmFurnace", "()V"⟩, 19) := ⟨⟨by decide +kernel, by decide +kernel⟩, List.mem_of_getElem? (i := 26) (by decide +kernel), List.mem_of_getElem? (i := 482) (by decide +kernel), List.mem_of_getElem? (i := 483) (by decide +kernel)⟩
theorem lw_p17 : lw_okq (⟨"ForgeHeats$Shop", "chargeFurnace", "()V"⟩, 19) := ⟨⟨by decide +kernel, by decide +kernel⟩, List.mem_of_getElem? (i := 26) (by decide +kernel), List.mem_of_getElem? (i := 489) (by decide +kernel), List.mem_of_getElem? (i := 490) (by decide +kernel)⟩
theorem lw_p18 : lw_okq (⟨"ForgeHeats$Shop", "freePlace", "()LForgeHeats$Billet;"⟩, 19) := ⟨⟨by decide +kernel, by decide +kernel⟩, List.mem_of_getElem? (i := 26) (by decide +kernel), List.mem_of_getElem? (i := 493) (by decide +kernel), List.mem_of_getElem? (i := 494) (by decide +kernel)⟩
theorem lw_p19 : lw_okq (⟨"ForgeHeats$Shop", "loadPress", "()V"⟩, 19) := ⟨⟨by decide +kernel, by decide +kernel⟩, List.mem_of_getElem? (i := 26) (by decide +kernel), List.mem_of_getElem? (i := 497) (by decide +kernel), List.mem_of_getElem? (i := 498) (by decide +kernel)⟩
theorem lw_p20 : lw_okq (⟨"ForgeHeats$Shop", "workPress", "(I)V"⟩, 19) := ⟨⟨by decide +kernel, by decide +kernel⟩, List.mem_of_getElem? (i := 26) (by decide +kernel), List.mem_of_getElem? (i := 509) (by decide +kernel), List.mem_of_getElem? (i := 510) (by decide +kernel)⟩
theorem lw_p21 : lw_okq (⟨"ForgeHeats$Shop", "sendBack", "(LForgeHeats$Job;LForgeHeats$Heat;)V"⟩, 19) := ⟨⟨by decide +kernel, by decide +kernel⟩, List.mem_of_getElem? (i := 26) (by decide +kernel), List.mem_of_getElem? (i := 513) (by decide +kernel), List.mem_of_getElem? (i := 514) (by decide +kernel)⟩
theorem lw_p22 : lw_okq (⟨"ForgeHeats$Shop", "countGone", "(LForgeHeats$Job;)V"⟩, 19) := ⟨⟨by decide +kernel, by decide +kernel⟩, List.mem_of_getElem? (i := 26) (by decide +kernel), List.mem_of_getElem? (i := 520) (by decide +kernel), List.mem_of_getElem? (i := 521) (by decide +kernel)⟩
theorem lw_p23 : lw_okq (⟨"ForgeHeats$Shop", "removeJob", "(I)V"⟩, 19) := ⟨⟨by decide +kernel, by decide +kernel⟩, List.mem_of_getElem? (i := 26) (by decide +kernel), List.mem_of_getElem? (i := 524) (by decide +kernel), List.mem_of_getElem? (i := 525) (by decide +kernel)⟩
theorem lw_p24 : lw_okq (⟨"ForgeHeats$Shop", "swapJobs", "(II)V"⟩, 19) := ⟨⟨by decide +kernel, by decide +kernel⟩, List.mem_of_getElem? (i := 26) (by decide +kernel), List.mem_of_getElem? (i := 528) (by decide +kernel), List.mem_of_getElem? (i := 529) (by decide +kernel)⟩
theorem lw_p25 : lw_okq (⟨"ForgeHeats$Shop", "tendDies", "()V"⟩, 19) := ⟨⟨by decide +kernel, by decide +kernel⟩, List.mem_of_getElem? (i := 26) (by decide +kernel), List.mem_of_getElem? (i := 532) (by decide +kernel), List.mem_of_getElem? (i := 533) (by decide +kernel)⟩
theorem lw_p26 : lw_okq (⟨"ForgeHeats", "gainByHaste", "(II)I"⟩, 5) := ⟨⟨by decide +kernel, by decide +kernel⟩, List.mem_of_getElem? (i := 18) (by decide +kernel), List.mem_of_getElem? (i := 543) (by decide +kernel), List.mem_of_getElem? (i := 544) (by decide +kernel)⟩
theorem lw_p27 : lw_okq (⟨"ForgeHeats$Shop", "settle", "(I)I"⟩, 19) := ⟨⟨by decide +kernel, by decide +kernel⟩, List.mem_of_getElem? (i := 26) (by decide +kernel), List.mem_of_getElem? (i := 551) (by decide +kernel), List.mem_of_getElem? (i := 552) (by decide +kernel)⟩
theorem lw_p28 : lw_okq (⟨"ForgeHeats", "foresee", "(I)V"⟩, 5) := ⟨⟨by decide +kernel, by decide +kernel⟩, List.mem_of_getElem? (i := 18) (by decide +kernel), List.mem_of_getElem? (i := 559) (by decide +kernel), List.mem_of_getElem? (i := 560) (by decide +kernel)⟩
theorem lw_p29 : lw_okq (⟨"ForgeHeats", "foreseen", "(I)I"⟩, 5) := ⟨⟨by decide +kernel, by decide +kernel⟩, List.mem_of_getElem? (i := 18) (by decide +kernel), List.mem_of_getElem? (i := 568) (by decide +kernel), List.mem_of_getElem? (i := 569) (by decide +kernel)⟩
theorem lw_p30 : lw_okq (⟨"ForgeHeats", "bestNumberOfReheats", "(I)I"⟩, 5) := ⟨⟨by decide +kernel, by decide +kernel⟩, List.mem_of_getElem? (i := 18) (by decide +kernel), List.mem_of_getElem? (i := 572) (by decide +kernel), List.mem_of_getElem? (i := 573) (by decide +kernel)⟩
theorem lw_p31 : lw_okq (⟨"java/lang/Throwable", "fillInStackTrace", "(I)Ljava/lang/Throwable;"⟩, 6) := ⟨⟨by decide +kernel, by decide +kernel⟩, List.mem_of_getElem? (i := 634) (by decide +kernel), List.mem_of_getElem? (i := 632) (by decide +kernel), List.mem_of_getElem? (i := 633) (by decide +kernel)⟩
def lw_privs_2 : List (MethodName × Nat) := [(⟨"ForgeHeats$Shop", "warmFurnace", "()V"⟩, 19), (⟨"ForgeHeats$Shop", "chargeFurnace", "()V"⟩, 19), (⟨"ForgeHeats$Shop", "freePlace", "()LForgeHeats$Billet;"⟩, 19), (⟨"ForgeHeats$Shop", "loadPress", "()V"⟩, 19), (⟨"ForgeHeats$Shop", "workPress", "(I)V"⟩, 19), (⟨"ForgeHeats$Shop", "sendBack", "(LForgeHeats$Job;LForgeHeats$Heat;)V"⟩, 19), (⟨"ForgeHeats$Shop", "countGone", "(LForgeHeats$Job;)V"⟩, 19), (⟨"ForgeHeats$Shop", "removeJob", "(I)V"⟩, 19), (⟨"ForgeHeats$Shop", "swapJobs", "(II)V"⟩, 19), (⟨"ForgeHeats$Shop", "tendDies", "()V"⟩, 19), (⟨"ForgeHeats", "gainByHaste", "(II)I"⟩, 5), (⟨"ForgeHeats$Shop", "settle", "(I)I"⟩, 19), (⟨"ForgeHeats", "foresee", "(I)V"⟩, 5), (⟨"ForgeHeats", "foreseen", "(I)I"⟩, 5), (⟨"ForgeHeats", "bestNumberOfReheats", "(I)I"⟩, 5), (⟨"java/lang/Throwable", "fillInStackTrace", "(I)Ljava/lang/Throwable;"⟩, 6)]
theorem lw_r2 : ∀ q ∈ lw_privs_2, lw_okq q := List.forall_mem_cons.mpr ⟨lw_p16, List.forall_mem_cons.mpr ⟨lw_p17, List.forall_mem_cons.mpr ⟨lw_p18, List.forall_mem_cons.mpr ⟨lw_p19, List.forall_mem_cons.mpr ⟨lw_p20, List.forall_mem_cons.mpr ⟨lw_p21, List.forall_mem_cons.mpr ⟨lw_p22, List.forall_mem_cons.mpr ⟨lw_p23, List.forall_mem_cons.mpr ⟨lw_p24, List.forall_mem_cons.mpr ⟨lw_p25, List.forall_mem_cons.mpr ⟨lw_p26, List.forall_mem_cons.mpr ⟨lw_p27, List.forall_mem_cons.mpr ⟨lw_p28, List.forall_mem_cons.mpr ⟨lw_p29, List.forall_mem_cons.mpr ⟨lw_p30, List.forall_mem_cons.mpr ⟨lw_p31, fun _ h => absurd h List.not_mem_nil⟩⟩⟩⟩⟩⟩⟩⟩⟩⟩⟩⟩⟩⟩⟩⟩
theorem lw_p32 : lw_okq (⟨"ForgeHeats", "remember", "()V"⟩, 5) := ⟨⟨by decide +kernel, by decide +kernel⟩, List.mem_of_getElem? (i := 18) (by decide +kernel), List.mem_of_getElem? (i := 697) (by decide +kernel), List.mem_of_getElem? (i := 698) (by decide +kernel)⟩
theorem lw_p33 : lw_okq (⟨"ForgeHeats", "dropOldest", "()V"⟩, 5) := ⟨⟨by decide +kernel, by decide +kernel⟩, List.mem_of_getElem? (i := 18) (by decide +kernel), List.mem_of_getElem? (i := 701) (by decide +kernel), List.mem_of_getElem? (i := 702) (by decide +kernel)⟩
theorem lw_p34 : lw_okq (⟨"ForgeHeats", "pastAt", "(I)LForgeHeats$Shop;"⟩, 5) := ⟨⟨by decide +kernel, by decide +kernel⟩, List.mem_of_getElem? (i := 18) (by decide +kernel), List.mem_of_getElem? (i := 705) (by decide +kernel), List.mem_of_getElem? (i := 706) (by decide +kernel)⟩
theorem lw_p35 : lw_okq (⟨"ForgeHeatsModel", "fails", "(I)I"⟩, 12) := ⟨⟨by decide +kernel, by decide +kernel⟩, List.mem_of_getElem? (i := 919) (by decide +kernel), List.mem_of_getElem? (i := 977) (by decide +kernel), List.mem_of_getElem? (i := 978) (by decide +kernel)⟩
theorem lw_p36 : lw_okq (⟨"ForgeHeatsModel", "heatOf", "(II)I"⟩, 12) := ⟨⟨by decide +kernel, by decide +kernel⟩, List.mem_of_getElem? (i := 919) (by decide +kernel), List.mem_of_getElem? (i := 981) (by decide +kernel), List.mem_of_getElem? (i := 982) (by decide +kernel)⟩
theorem lw_p37 : lw_okq (⟨"ForgeHeatsModel", "saves", "()V"⟩, 12) := ⟨⟨by decide +kernel, by decide +kernel⟩, List.mem_of_getElem? (i := 919) (by decide +kernel), List.mem_of_getElem? (i := 985) (by decide +kernel), List.mem_of_getElem? (i := 986) (by decide +kernel)⟩
theorem lw_p38 : lw_okq (⟨"ForgeHeatsModel", "isBeingGround", "(I)Z"⟩, 12) := ⟨⟨by decide +kernel, by decide +kernel⟩, List.mem_of_getElem? (i := 919) (by decide +kernel), List.mem_of_getElem? (i := 1000) (by decide +kernel), List.mem_of_getElem? (i := 1001) (by decide +kernel)⟩
theorem lw_p39 : lw_okq (⟨"ForgeHeatsModel", "die0", "(II)I"⟩, 12) := ⟨⟨by decide +kernel, by decide +kernel⟩, List.mem_of_getElem? (i := 919) (by decide +kernel), List.mem_of_getElem? (i := 1004) (by decide +kernel), List.mem_of_getElem? (i := 1005) (by decide +kernel)⟩
theorem lw_p40 : lw_okq (⟨"ForgeHeatsModel", "begins", "(I)V"⟩, 12) := ⟨⟨by decide +kernel, by decide +kernel⟩, List.mem_of_getElem? (i := 919) (by decide +kernel), List.mem_of_getElem? (i := 1012) (by decide +kernel), List.mem_of_getElem? (i := 1013) (by decide +kernel)⟩
theorem lw_p41 : lw_okq (⟨"ForgeHeatsModel", "comes", "(IIIII)V"⟩, 12) := ⟨⟨by decide +kernel, by decide +kernel⟩, List.mem_of_getElem? (i := 919) (by decide +kernel), List.mem_of_getElem? (i := 1020) (by decide +kernel), List.mem_of_getElem? (i := 1021) (by decide +kernel)⟩
theorem lw_p42 : lw_okq (⟨"ForgeHeatsModel", "jobWith", "(I)I"⟩, 12) := ⟨⟨by decide +kernel, by decide +kernel⟩, List.mem_of_getElem? (i := 919) (by decide +kernel), List.mem_of_getElem? (i := 1028) (by decide +kernel), List.mem_of_getElem? (i := 1029) (by decide +kernel)⟩
theorem lw_p43 : lw_okq (⟨"ForgeHeatsModel", "job0", "(II)I"⟩, 12) := ⟨⟨by decide +kernel, by decide +kernel⟩, List.mem_of_getElem? (i := 919) (by decide +kernel), List.mem_of_getElem? (i := 1032) (by decide +kernel), List.mem_of_getElem? (i := 1033) (by decide +kernel)⟩
theorem lw_p44 : lw_okq (⟨"ForgeHeatsModel", "jobOn", "(I)I"⟩, 12) := ⟨⟨by decide +kernel, by decide +kernel⟩, List.mem_of_getElem? (i := 919) (by decide +kernel), List.mem_of_getElem? (i := 1036) (by decide +kernel), List.mem_of_getElem? (i := 1037) (by decide +kernel)⟩
theorem lw_p45 : lw_okq (⟨"ForgeHeatsModel", "billet0", "(II)I"⟩, 12) := ⟨⟨by decide +kernel, by decide +kernel⟩, List.mem_of_getElem? (i := 919) (by decide +kernel), List.mem_of_getElem? (i := 1040) (by decide +kernel), List.mem_of_getElem? (i := 1041) (by decide +kernel)⟩
theorem lw_p46 : lw_okq (⟨"ForgeHeatsModel", "scraps", "(I)V"⟩, 12) := ⟨⟨by decide +kernel, by decide +kernel⟩, List.mem_of_getElem? (i := 919) (by decide +kernel), List.mem_of_getElem? (i := 1044) (by decide +kernel), List.mem_of_getElem? (i := 1045) (by decide +kernel)⟩
theorem lw_p47 : lw_okq (⟨"ForgeHeatsModel", "clears", "(I)V"⟩, 12) := ⟨⟨by decide +kernel, by decide +kernel⟩, List.mem_of_getElem? (i := 919) (by decide +kernel), List.mem_of_getElem? (i := 1048) (by decide +kernel), List.mem_of_getElem? (i := 1049) (by decide +kernel)⟩
def lw_privs_3 : List (MethodName × Nat) := [(⟨"ForgeHeats", "remember", "()V"⟩, 5), (⟨"ForgeHeats", "dropOldest", "()V"⟩, 5), (⟨"ForgeHeats", "pastAt", "(I)LForgeHeats$Shop;"⟩, 5), (⟨"ForgeHeatsModel", "fails", "(I)I"⟩, 12), (⟨"ForgeHeatsModel", "heatOf", "(II)I"⟩, 12), (⟨"ForgeHeatsModel", "saves", "()V"⟩, 12), (⟨"ForgeHeatsModel", "isBeingGround", "(I)Z"⟩, 12), (⟨"ForgeHeatsModel", "die0", "(II)I"⟩, 12), (⟨"ForgeHeatsModel", "begins", "(I)V"⟩, 12), (⟨"ForgeHeatsModel", "comes", "(IIIII)V"⟩, 12), (⟨"ForgeHeatsModel", "jobWith", "(I)I"⟩, 12), (⟨"ForgeHeatsModel", "job0", "(II)I"⟩, 12), (⟨"ForgeHeatsModel", "jobOn", "(I)I"⟩, 12), (⟨"ForgeHeatsModel", "billet0", "(II)I"⟩, 12), (⟨"ForgeHeatsModel", "scraps", "(I)V"⟩, 12), (⟨"ForgeHeatsModel", "clears", "(I)V"⟩, 12)]
theorem lw_r3 : ∀ q ∈ lw_privs_3, lw_okq q := List.forall_mem_cons.mpr ⟨lw_p32, List.forall_mem_cons.mpr ⟨lw_p33, List.forall_mem_cons.mpr ⟨lw_p34, List.forall_mem_cons.mpr ⟨lw_p35, List.forall_mem_cons.mpr ⟨lw_p36, List.forall_mem_cons.mpr ⟨lw_p37, List.forall_mem_cons.mpr ⟨lw_p38, List.forall_mem_cons.mpr ⟨lw_p39, List.forall_mem_cons.mpr ⟨lw_p40, List.forall_mem_cons.mpr ⟨lw_p41, List.forall_mem_cons.mpr ⟨lw_p42, List.forall_mem_cons.mpr ⟨lw_p43, List.forall_mem_cons.mpr ⟨lw_p44, List.forall_mem_cons.mpr ⟨lw_p45, List.forall_mem_cons.mpr ⟨lw_p46, List.forall_mem_cons.mpr ⟨lw_p47, fun _ h => absurd h List.not_mem_nil⟩⟩⟩⟩⟩⟩⟩⟩⟩⟩⟩⟩⟩⟩⟩⟩
theorem lw_p48 : lw_okq (⟨"ForgeHeatsModel", "lay", "(III)V"⟩, 12) := ⟨⟨by decide +kernel, by decide +kernel⟩, List.mem_of_getElem? (i := 919) (by decide +kernel), List.mem_of_getElem? (i := 1052) (by decide +kernel), List.mem_of_getElem? (i := 1053) (by decide +kernel)⟩
theorem lw_p49 : lw_okq (⟨"ForgeHeatsModel", "dropsJob", "(I)V"⟩, 12) := ⟨⟨by decide +kernel, by decide +kernel⟩, List.mem_of_getElem? (i := 919) (by decide +kernel), List.mem_of_getElem? (i := 1056) (by decide +kernel), List.mem_of_getElem? (i := 1057) (by decide +kernel)⟩
theorem lw_p50 : lw_okq (⟨"ForgeHeatsModel", "rankOf", "(I)I"⟩, 12) := ⟨⟨by decide +kernel, by decide +kernel⟩, List.mem_of_getElem? (i := 919) (by decide +kernel), List.mem_of_getElem? (i := 1064) (by decide +kernel), List.mem_of_getElem? (i := 1065) (by decide +kernel)⟩
theorem lw_p51 : lw_okq (⟨"ForgeHeatsModel", "isAhead", "(II)Z"⟩, 12) := ⟨⟨by decide +kernel, by decide +kernel⟩, List.mem_of_getElem? (i := 919) (by decide +kernel), List.mem_of_getElem? (i := 1068) (by decide +kernel), List.mem_of_getElem? (i := 1069) (by decide +kernel)⟩
theorem lw_p52 : lw_okq (⟨"ForgeHeatsModel", "minutes", "(I)I"⟩, 12) := ⟨⟨by decide +kernel, by decide +kernel⟩, List.mem_of_getElem? (i := 919) (by decide +kernel), List.mem_of_getElem? (i := 1083) (by decide +kernel), List.mem_of_getElem? (i := 1084) (by decide +kernel)⟩
theorem lw_p53 : lw_okq (⟨"ForgeHeatsModel", "minute", "()V"⟩, 12) := ⟨⟨by decide +kernel, by decide +kernel⟩, List.mem_of_getElem? (i := 919) (by decide +kernel), List.mem_of_getElem? (i := 1087) (by decide +kernel), List.mem_of_getElem? (i := 1088) (by decide +kernel)⟩
theorem lw_p54 : lw_okq (⟨"ForgeHeatsModel", "warms", "()V"⟩, 12) := ⟨⟨by decide +kernel, by decide +kernel⟩, List.mem_of_getElem? (i := 919) (by decide +kernel), List.mem_of_getElem? (i := 1091) (by decide +kernel), List.mem_of_getElem? (i := 1092) (by decide +kernel)⟩
theorem lw_p55 : lw_okq (⟨"ForgeHeatsModel", "loads", "()V"⟩, 12) := ⟨⟨by decide +kernel, by decide +kernel⟩, List.mem_of_getElem? (i := 919) (by decide +kernel), List.mem_of_getElem? (i := 1095) (by decide +kernel), List.mem_of_getElem? (i := 1096) (by decide +kernel)⟩
theorem lw_p56 : lw_okq (⟨"ForgeHeatsModel", "freePlace", "()I"⟩, 12) := ⟨⟨by decide +kernel, by decide +kernel⟩, List.mem_of_getElem? (i := 919) (by decide +kernel), List.mem_of_getElem? (i := 1099) (by decide +kernel), List.mem_of_getElem? (i := 1100) (by decide +kernel)⟩
theorem lw_p57 : lw_okq (⟨"ForgeHeatsModel", "jobAt", "(I)I"⟩, 12) := ⟨⟨by decide +kernel, by decide +kernel⟩, List.mem_of_getElem? (i := 919) (by decide +kernel), List.mem_of_getElem? (i := 1103) (by decide +kernel), List.mem_of_getElem? (i := 1104) (by decide +kernel)⟩
theorem lw_p58 : lw_okq (⟨"ForgeHeatsModel", "lacks", "(I)I"⟩, 12) := ⟨⟨by decide +kernel, by decide +kernel⟩, List.mem_of_getElem? (i := 919) (by decide +kernel), List.mem_of_getElem? (i := 1107) (by decide +kernel), List.mem_of_getElem? (i := 1108) (by decide +kernel)⟩
theorem lw_p59 : lw_okq (⟨"ForgeHeatsModel", "billetsOf", "(III)I"⟩, 12) := ⟨⟨by decide +kernel, by decide +kernel⟩, List.mem_of_getElem? (i := 919) (by decide +kernel), List.mem_of_getElem? (i := 1111) (by decide +kernel), List.mem_of_getElem? (i := 1112) (by decide +kernel)⟩
theorem lw_p60 : lw_okq (⟨"ForgeHeatsModel", "takes", "()V"⟩, 12) := ⟨⟨by decide +kernel, by decide +kernel⟩, List.mem_of_getElem? (i := 919) (by decide +kernel), List.mem_of_getElem? (i := 1115) (by decide +kernel), List.mem_of_getElem? (i := 1116) (by decide +kernel)⟩
theorem lw_p61 : lw_okq (⟨"ForgeHeatsModel", "isFit", "(I)Z"⟩, 12) := ⟨⟨by decide +kernel, by decide +kernel⟩, List.mem_of_getElem? (i := 919) (by decide +kernel), List.mem_of_getElem? (i := 1119) (by decide +kernel), List.mem_of_getElem? (i := 1120) (by decide +kernel)⟩
theorem lw_p62 : lw_okq (⟨"ForgeHeatsModel", "isWornOut", "(I)Z"⟩, 12) := ⟨⟨by decide +kernel, by decide +kernel⟩, List.mem_of_getElem? (i := 919) (by decide +kernel), List.mem_of_getElem? (i := 1123) (by decide +kernel), List.mem_of_getElem? (i := 1124) (by decide +kernel)⟩
theorem lw_p63 : lw_okq (⟨"ForgeHeatsModel", "hottest", "(I)I"⟩, 12) := ⟨⟨by decide +kernel, by decide +kernel⟩, List.mem_of_getElem? (i := 919) (by decide +kernel), List.mem_of_getElem? (i := 1127) (by decide +kernel), List.mem_of_getElem? (i := 1128) (by decide +kernel)⟩
def lw_privs_4 : List (MethodName × Nat) := [(⟨"ForgeHeatsModel", "lay", "(III)V"⟩, 12), (⟨"ForgeHeatsModel", "dropsJob", "(I)V"⟩, 12), (⟨"ForgeHeatsModel", "rankOf", "(I)I"⟩, 12), (⟨"ForgeHeatsModel", "isAhead", "(II)Z"⟩, 12), (⟨"ForgeHeatsModel", "minutes", "(I)I"⟩, 12), (⟨"ForgeHeatsModel", "minute", "()V"⟩, 12), (⟨"ForgeHeatsModel", "warms", "()V"⟩, 12), (⟨"ForgeHeatsModel", "loads", "()V"⟩, 12), (⟨"ForgeHeatsModel", "freePlace", "()I"⟩, 12), (⟨"ForgeHeatsModel", "jobAt", "(I)I"⟩, 12), (⟨"ForgeHeatsModel", "lacks", "(I)I"⟩, 12), (⟨"ForgeHeatsModel", "billetsOf", "(III)I"⟩, 12), (⟨"ForgeHeatsModel", "takes", "()V"⟩, 12), (⟨"ForgeHeatsModel", "isFit", "(I)Z"⟩, 12), (⟨"ForgeHeatsModel", "isWornOut", "(I)Z"⟩, 12), (⟨"ForgeHeatsModel", "hottest", "(I)I"⟩, 12)]
theorem lw_r4 : ∀ q ∈ lw_privs_4, lw_okq q := List.forall_mem_cons.mpr ⟨lw_p48, List.forall_mem_cons.mpr ⟨lw_p49, List.forall_mem_cons.mpr ⟨lw_p50, List.forall_mem_cons.mpr ⟨lw_p51, List.forall_mem_cons.mpr ⟨lw_p52, List.forall_mem_cons.mpr ⟨lw_p53, List.forall_mem_cons.mpr ⟨lw_p54, List.forall_mem_cons.mpr ⟨lw_p55, List.forall_mem_cons.mpr ⟨lw_p56, List.forall_mem_cons.mpr ⟨lw_p57, List.forall_mem_cons.mpr ⟨lw_p58, List.forall_mem_cons.mpr ⟨lw_p59, List.forall_mem_cons.mpr ⟨lw_p60, List.forall_mem_cons.mpr ⟨lw_p61, List.forall_mem_cons.mpr ⟨lw_p62, List.forall_mem_cons.mpr ⟨lw_p63, fun _ h => absurd h List.not_mem_nil⟩⟩⟩⟩⟩⟩⟩⟩⟩⟩⟩⟩⟩⟩⟩⟩
theorem lw_p64 : lw_okq (⟨"ForgeHeatsModel", "moves", "(II)V"⟩, 12) := ⟨⟨by decide +kernel, by decide +kernel⟩, List.mem_of_getElem? (i := 919) (by decide +kernel), List.mem_of_getElem? (i := 1131) (by decide +kernel), List.mem_of_getElem? (i := 1132) (by decide +kernel)⟩
theorem lw_p65 : lw_okq (⟨"ForgeHeatsModel", "presses", "(I)V"⟩, 12) := ⟨⟨by decide +kernel, by decide +kernel⟩, List.mem_of_getElem? (i := 919) (by decide +kernel), List.mem_of_getElem? (i := 1135) (by decide +kernel), List.mem_of_getElem? (i := 1136) (by decide +kernel)⟩
theorem lw_p66 : lw_okq (⟨"ForgeHeatsModel", "goesBack", "()V"⟩, 12) := ⟨⟨by decide +kernel, by decide +kernel⟩, List.mem_of_getElem? (i := 919) (by decide +kernel), List.mem_of_getElem? (i := 1139) (by decide +kernel), List.mem_of_getElem? (i := 1140) (by decide +kernel)⟩
theorem lw_p67 : lw_okq (⟨"ForgeHeatsModel", "makes", "(I)V"⟩, 12) := ⟨⟨by decide +kernel, by decide +kernel⟩, List.mem_of_getElem? (i := 919) (by decide +kernel), List.mem_of_getElem? (i := 1143) (by decide +kernel), List.mem_of_getElem? (i := 1144) (by decide +kernel)⟩
theorem lw_p68 : lw_okq (⟨"ForgeHeatsModel", "grinds", "()V"⟩, 12) := ⟨⟨by decide +kernel, by decide +kernel⟩, List.mem_of_getElem? (i := 919) (by decide +kernel), List.mem_of_getElem? (i := 1147) (by decide +kernel), List.mem_of_getElem? (i := 1148) (by decide +kernel)⟩
theorem lw_p69 : lw_okq (⟨"ForgeHeatsModel", "readsAll", "()V"⟩, 12) := ⟨⟨by decide +kernel, by decide +kernel⟩, List.mem_of_getElem? (i := 919) (by decide +kernel), List.mem_of_getElem? (i := 1163) (by decide +kernel), List.mem_of_getElem? (i := 1164) (by decide +kernel)⟩
theorem lw_p70 : lw_okq (⟨"ForgeHeatsModel", "readsPart", "()V"⟩, 12) := ⟨⟨by decide +kernel, by decide +kernel⟩, List.mem_of_getElem? (i := 919) (by decide +kernel), List.mem_of_getElem? (i := 1167) (by decide +kernel), List.mem_of_getElem? (i := 1168) (by decide +kernel)⟩
theorem lw_p71 : lw_okq (⟨"ForgeHeatsModel", "number", "(II)I"⟩, 12) := ⟨⟨by decide +kernel, by decide +kernel⟩, List.mem_of_getElem? (i := 919) (by decide +kernel), List.mem_of_getElem? (i := 1171) (by decide +kernel), List.mem_of_getElem? (i := 1172) (by decide +kernel)⟩
theorem lw_p72 : lw_okq (⟨"ForgeHeatsModel", "sign", "()I"⟩, 12) := ⟨⟨by decide +kernel, by decide +kernel⟩, List.mem_of_getElem? (i := 919) (by decide +kernel), List.mem_of_getElem? (i := 1175) (by decide +kernel), List.mem_of_getElem? (i := 1176) (by decide +kernel)⟩
theorem lw_p73 : lw_okq (⟨"ForgeHeatsModel", "takesSign", "(I)Z"⟩, 12) := ⟨⟨by decide +kernel, by decide +kernel⟩, List.mem_of_getElem? (i := 919) (by decide +kernel), List.mem_of_getElem? (i := 1179) (by decide +kernel), List.mem_of_getElem? (i := 1180) (by decide +kernel)⟩
theorem lw_p74 : lw_okq (⟨"ForgeHeatsModel", "tellsHeat", "(II)I"⟩, 12) := ⟨⟨by decide +kernel, by decide +kernel⟩, List.mem_of_getElem? (i := 919) (by decide +kernel), List.mem_of_getElem? (i := 1195) (by decide +kernel), List.mem_of_getElem? (i := 1196) (by decide +kernel)⟩
theorem lw_p75 : lw_okq (⟨"ForgeHeatsModel", "billetsWith", "(I)I"⟩, 12) := ⟨⟨by decide +kernel, by decide +kernel⟩, List.mem_of_getElem? (i := 919) (by decide +kernel), List.mem_of_getElem? (i := 1199) (by decide +kernel), List.mem_of_getElem? (i := 1200) (by decide +kernel)⟩
theorem lw_p76 : lw_okq (⟨"ForgeHeatsModel", "lackedWith", "(I)I"⟩, 12) := ⟨⟨by decide +kernel, by decide +kernel⟩, List.mem_of_getElem? (i := 919) (by decide +kernel), List.mem_of_getElem? (i := 1203) (by decide +kernel), List.mem_of_getElem? (i := 1204) (by decide +kernel)⟩
theorem lw_p77 : lw_okq (⟨"ForgeHeatsModel", "tellsDie", "(II)I"⟩, 12) := ⟨⟨by decide +kernel, by decide +kernel⟩, List.mem_of_getElem? (i := 919) (by decide +kernel), List.mem_of_getElem? (i := 1211) (by decide +kernel), List.mem_of_getElem? (i := 1212) (by decide +kernel)⟩
theorem lw_p78 : lw_okq (⟨"ForgeHeatsModel", "tellsJob", "(II)I"⟩, 12) := ⟨⟨by decide +kernel, by decide +kernel⟩, List.mem_of_getElem? (i := 919) (by decide +kernel), List.mem_of_getElem? (i := 1219) (by decide +kernel), List.mem_of_getElem? (i := 1220) (by decide +kernel)⟩
theorem lw_p79 : lw_okq (⟨"ForgeHeatsModel", "reason", "(I)I"⟩, 12) := ⟨⟨by decide +kernel, by decide +kernel⟩, List.mem_of_getElem? (i := 919) (by decide +kernel), List.mem_of_getElem? (i := 1223) (by decide +kernel), List.mem_of_getElem? (i := 1224) (by decide +kernel)⟩
def lw_privs_5 : List (MethodName × Nat) := [(⟨"ForgeHeatsModel", "moves", "(II)V"⟩, 12), (⟨"ForgeHeatsModel", "presses", "(I)V"⟩, 12), (⟨"ForgeHeatsModel", "goesBack", "()V"⟩, 12), (⟨"ForgeHeatsModel", "makes", "(I)V"⟩, 12), (⟨"ForgeHeatsModel", "grinds", "()V"⟩, 12), (⟨"ForgeHeatsModel", "readsAll", "()V"⟩, 12), (⟨"ForgeHeatsModel", "readsPart", "()V"⟩, 12), (⟨"ForgeHeatsModel", "number", "(II)I"⟩, 12), (⟨"ForgeHeatsModel", "sign", "()I"⟩, 12), (⟨"ForgeHeatsModel", "takesSign", "(I)Z"⟩, 12), (⟨"ForgeHeatsModel", "tellsHeat", "(II)I"⟩, 12), (⟨"ForgeHeatsModel", "billetsWith", "(I)I"⟩, 12), (⟨"ForgeHeatsModel", "lackedWith", "(I)I"⟩, 12), (⟨"ForgeHeatsModel", "tellsDie", "(II)I"⟩, 12), (⟨"ForgeHeatsModel", "tellsJob", "(II)I"⟩, 12), (⟨"ForgeHeatsModel", "reason", "(I)I"⟩, 12)]
theorem lw_r5 : ∀ q ∈ lw_privs_5, lw_okq q := List.forall_mem_cons.mpr ⟨lw_p64, List.forall_mem_cons.mpr ⟨lw_p65, List.forall_mem_cons.mpr ⟨lw_p66, List.forall_mem_cons.mpr ⟨lw_p67, List.forall_mem_cons.mpr ⟨lw_p68, List.forall_mem_cons.mpr ⟨lw_p69, List.forall_mem_cons.mpr ⟨lw_p70, List.forall_mem_cons.mpr ⟨lw_p71, List.forall_mem_cons.mpr ⟨lw_p72, List.forall_mem_cons.mpr ⟨lw_p73, List.forall_mem_cons.mpr ⟨lw_p74, List.forall_mem_cons.mpr ⟨lw_p75, List.forall_mem_cons.mpr ⟨lw_p76, List.forall_mem_cons.mpr ⟨lw_p77, List.forall_mem_cons.mpr ⟨lw_p78, List.forall_mem_cons.mpr ⟨lw_p79, fun _ h => absurd h List.not_mem_nil⟩⟩⟩⟩⟩⟩⟩⟩⟩⟩⟩⟩⟩⟩⟩⟩
theorem lw_p80 : lw_okq (⟨"ForgeHeatsModel", "tellsBillet", "(II)I"⟩, 12) := ⟨⟨by decide +kernel, by decide +kernel⟩, List.mem_of_getElem? (i := 919) (by decide +kernel), List.mem_of_getElem? (i := 1231) (by decide +kernel), List.mem_of_getElem? (i := 1232) (by decide +kernel)⟩
theorem lw_p81 : lw_okq (⟨"ForgeHeatsModel", "counts", "(I)I"⟩, 12) := ⟨⟨by decide +kernel, by decide +kernel⟩, List.mem_of_getElem? (i := 919) (by decide +kernel), List.mem_of_getElem? (i := 1239) (by decide +kernel), List.mem_of_getElem? (i := 1240) (by decide +kernel)⟩
theorem lw_p82 : lw_okq (⟨"ForgeHeatsModel", "rushJobs", "()I"⟩, 12) := ⟨⟨by decide +kernel, by decide +kernel⟩, List.mem_of_getElem? (i := 919) (by decide +kernel), List.mem_of_getElem? (i := 1243) (by decide +kernel), List.mem_of_getElem? (i := 1244) (by decide +kernel)⟩
theorem lw_p83 : lw_okq (⟨"ForgeHeatsModel", "inFurnace", "()I"⟩, 12) := ⟨⟨by decide +kernel, by decide +kernel⟩, List.mem_of_getElem? (i := 919) (by decide +kernel), List.mem_of_getElem? (i := 1247) (by decide +kernel), List.mem_of_getElem? (i := 1248) (by decide +kernel)⟩
theorem lw_p84 : lw_okq (⟨"ForgeHeatsModel", "passed", "(II)I"⟩, 12) := ⟨⟨by decide +kernel, by decide +kernel⟩, List.mem_of_getElem? (i := 919) (by decide +kernel), List.mem_of_getElem? (i := 1259) (by decide +kernel), List.mem_of_getElem? (i := 1260) (by decide +kernel)⟩
theorem lw_p85 : lw_okq (⟨"ForgeHeatsModel", "putAside", "()V"⟩, 12) := ⟨⟨by decide +kernel, by decide +kernel⟩, List.mem_of_getElem? (i := 919) (by decide +kernel), List.mem_of_getElem? (i := 1263) (by decide +kernel), List.mem_of_getElem? (i := 1264) (by decide +kernel)⟩
theorem lw_p86 : lw_okq (⟨"ForgeHeatsModel", "takeBack", "()V"⟩, 12) := ⟨⟨by decide +kernel, by decide +kernel⟩, List.mem_of_getElem? (i := 919) (by decide +kernel), List.mem_of_getElem? (i := 1267) (by decide +kernel), List.mem_of_getElem? (i := 1268) (by decide +kernel)⟩
theorem lw_p87 : lw_okq (⟨"ForgeHeatsModel", "untilGone", "(IZ)I"⟩, 12) := ⟨⟨by decide +kernel, by decide +kernel⟩, List.mem_of_getElem? (i := 919) (by decide +kernel), List.mem_of_getElem? (i := 1275) (by decide +kernel), List.mem_of_getElem? (i := 1276) (by decide +kernel)⟩
theorem lw_p88 : lw_okq (⟨"ForgeHeatsModel", "earlier", "(I)I"⟩, 12) := ⟨⟨by decide +kernel, by decide +kernel⟩, List.mem_of_getElem? (i := 919) (by decide +kernel), List.mem_of_getElem? (i := 1283) (by decide +kernel), List.mem_of_getElem? (i := 1284) (by decide +kernel)⟩
theorem lw_p89 : lw_okq (⟨"ForgeHeatsModel", "reheatsFor", "(I)I"⟩, 12) := ⟨⟨by decide +kernel, by decide +kernel⟩, List.mem_of_getElem? (i := 919) (by decide +kernel), List.mem_of_getElem? (i := 1291) (by decide +kernel), List.mem_of_getElem? (i := 1292) (by decide +kernel)⟩
theorem lw_p90 : lw_okq (⟨"ForgeHeatsModel", "hashes", "(J)V"⟩, 12) := ⟨⟨by decide +kernel, by decide +kernel⟩, List.mem_of_getElem? (i := 919) (by decide +kernel), List.mem_of_getElem? (i := 1304) (by decide +kernel), List.mem_of_getElem? (i := 1305) (by decide +kernel)⟩
theorem lw_p91 : lw_okq (⟨"ForgeHeatsModel", "hashesShop", "()V"⟩, 12) := ⟨⟨by decide +kernel, by decide +kernel⟩, List.mem_of_getElem? (i := 919) (by decide +kernel), List.mem_of_getElem? (i := 1309) (by decide +kernel), List.mem_of_getElem? (i := 1310) (by decide +kernel)⟩
def lw_privs_6 : List (MethodName × Nat) := [(⟨"ForgeHeatsModel", "tellsBillet", "(II)I"⟩, 12), (⟨"ForgeHeatsModel", "counts", "(I)I"⟩, 12), (⟨"ForgeHeatsModel", "rushJobs", "()I"⟩, 12), (⟨"ForgeHeatsModel", "inFurnace", "()I"⟩, 12), (⟨"ForgeHeatsModel", "passed", "(II)I"⟩, 12), (⟨"ForgeHeatsModel", "putAside", "()V"⟩, 12), (⟨"ForgeHeatsModel", "takeBack", "()V"⟩, 12), (⟨"ForgeHeatsModel", "untilGone", "(IZ)I"⟩, 12), (⟨"ForgeHeatsModel", "earlier", "(I)I"⟩, 12), (⟨"ForgeHeatsModel", "reheatsFor", "(I)I"⟩, 12), (⟨"ForgeHeatsModel", "hashes", "(J)V"⟩, 12), (⟨"ForgeHeatsModel", "hashesShop", "()V"⟩, 12)]
theorem lw_r6 : ∀ q ∈ lw_privs_6, lw_okq q := List.forall_mem_cons.mpr ⟨lw_p80, List.forall_mem_cons.mpr ⟨lw_p81, List.forall_mem_cons.mpr ⟨lw_p82, List.forall_mem_cons.mpr ⟨lw_p83, List.forall_mem_cons.mpr ⟨lw_p84, List.forall_mem_cons.mpr ⟨lw_p85, List.forall_mem_cons.mpr ⟨lw_p86, List.forall_mem_cons.mpr ⟨lw_p87, List.forall_mem_cons.mpr ⟨lw_p88, List.forall_mem_cons.mpr ⟨lw_p89, List.forall_mem_cons.mpr ⟨lw_p90, List.forall_mem_cons.mpr ⟨lw_p91, fun _ h => absurd h List.not_mem_nil⟩⟩⟩⟩⟩⟩⟩⟩⟩⟩⟩⟩
def lw_privs : List (MethodName × Nat) := lw_privs_1 ++ (lw_privs_2 ++ (lw_privs_3 ++ (lw_privs_4 ++ (lw_privs_5 ++ (lw_privs_6)))))
def lw_tbl : List Cond := k2_sels lw_privs ++ tables_1
theorem lw_privs_ok : ∀ q ∈ lw_privs, lw_okq q := by
  show ∀ q ∈ lw_privs_1 ++ (lw_privs_2 ++ (lw_privs_3 ++ (lw_privs_4 ++ (lw_privs_5 ++ (lw_privs_6))))), lw_okq q
  exact List.forall_mem_append.mpr ⟨lw_r1, List.forall_mem_append.mpr ⟨lw_r2, List.forall_mem_append.mpr ⟨lw_r3, List.forall_mem_append.mpr ⟨lw_r4, List.forall_mem_append.mpr ⟨lw_r5, lw_r6⟩⟩⟩⟩⟩
/-- the streams that the claim lets the run draw from -/
abbrev lw_cs : List Choice := [Jvm.Choice.named "NaN.bits"]
theorem lw_bits : nanBits ∈ lw_cs := by first | decide | exact List.mem_cons_self | simp [lw_cs, nanBits]
-- ===== end of PART A; then your names; then what follows =====
/-! ===== BEGIN words of one list among another's, by their places ===== -/
theorem goodIn_r {big : List Cond} (ws : List Cond) (ps : List Nat) (hp : ws = ps.filterMap (fun i => big[i]?)) (h : ws.all goodWord = true) : GoodIn big ws := by
  intro w hw
  have h1 := List.all_eq_true.mp h w hw
  rw [hp] at hw
  obtain ⟨i, -, hi⟩ := List.mem_filterMap.mp hw
  have hm : w ∈ big := by first | exact List.mem_of_getElem? hi | exact List.getElem?_mem hi
  exact ⟨hm, good_of_word h1⟩
theorem goodIn_app {big a b : List Cond} (ha : GoodIn big a) (hb : GoodIn big b) : GoodIn big (a ++ b) := fun w h => (List.mem_append.mp h).elim (ha w) (hb w)
theorem goodIn_ca {big a b : List Cond} {c : Cond} (ha : GoodIn big (c :: a)) (hb : GoodIn big b) : GoodIn big (c :: (a ++ b)) := fun w h => (List.mem_cons.mp h).elim (fun e => ha w (List.mem_cons.mpr (Or.inl e))) (fun h => (List.mem_append.mp h).elim (fun h => ha w (List.mem_cons.mpr (Or.inr h))) (hb w))
theorem goodIn_sub {big ws : List Cond} (hm : ∀ w ∈ ws, w ∈ big) (h : ws.all goodWord = true) : GoodIn big ws := fun w hw => ⟨hm w hw, good_of_word (List.all_eq_true.mp h w hw)⟩
/-! ===== END ===== -/
def RX0 : String := "ForgeHeats$Billet"
def TX0 : u_T := fun k => match k with
  | 0 => ("ForgeHeats$Billet", "job", "I", false)
  | 1 => ("ForgeHeats$Billet", "degrees", "I", false)
  | 2 => ("ForgeHeats$Billet", "reheats", "I", false)
  | _ => ("ForgeHeats$Billet", "blows", "I", false)
def tyX0 : Nat → FieldType := fun k => match k with
  | 0 => .int
  | 1 => .int
  | 2 => .int
  | _ => .int
abbrev wsX00 : List Cond := u_ws RX0 TX0 4
theorem nmX0 : ∀ a, a < 4 → ∀ b, b < 4 → a ≠ b → (TX0 a).2.1 ≠ (TX0 b).2.1 := by decide +kernel
theorem tyX0_ok : ∀ k, k < 4 → parseFieldDescriptor (TX0 k).2.2.1 = some (tyX0 k) := by decide +kernel
abbrev cX0_init : ByteArray := prog_2_method_1_code
def yX0_init : MethodName := ⟨RX0, "<init>", "()V"⟩
abbrev cX0_copyFrom : ByteArray := prog_2_method_2_code
def yX0_copyFrom : MethodName := ⟨RX0, "copyFrom", "(LForgeHeats$Billet;)V"⟩
abbrev cX0_property : ByteArray := prog_2_method_3_code
def yX0_property : MethodName := ⟨RX0, "property", "(I)I"⟩
def RX1 : String := "ForgeHeats$Die"
def TX1 : u_T := fun k => match k with
  | 0 => ("ForgeHeats$Die", "blows", "I", false)
  | 1 => ("ForgeHeats$Die", "limit", "I", false)
  | 2 => ("ForgeHeats$Die", "wear", "I", false)
  | 3 => ("ForgeHeats$Die", "toGo", "I", false)
  | 4 => ("ForgeHeats$Die", "made", "I", false)
  | _ => ("ForgeHeats$Die", "timesGround", "I", false)
def tyX1 : Nat → FieldType := fun k => match k with
  | 0 => .int
  | 1 => .int
  | 2 => .int
  | 3 => .int
  | 4 => .int
  | _ => .int
abbrev wsX10 : List Cond := u_ws RX1 TX1 6
theorem nmX1 : ∀ a, a < 6 → ∀ b, b < 6 → a ≠ b → (TX1 a).2.1 ≠ (TX1 b).2.1 := by decide +kernel
theorem tyX1_ok : ∀ k, k < 6 → parseFieldDescriptor (TX1 k).2.2.1 = some (tyX1 k) := by decide +kernel
abbrev cX1_init : ByteArray := prog_3_method_1_code
def yX1_init : MethodName := ⟨RX1, "<init>", "()V"⟩
abbrev cX1_copyFrom : ByteArray := prog_3_method_2_code
def yX1_copyFrom : MethodName := ⟨RX1, "copyFrom", "(LForgeHeats$Die;)V"⟩
abbrev cX1_isBeingGround : ByteArray := prog_3_method_3_code
def yX1_isBeingGround : MethodName := ⟨RX1, "isBeingGround", "()Z"⟩
abbrev cX1_isWornOut : ByteArray := prog_3_method_4_code
def yX1_isWornOut : MethodName := ⟨RX1, "isWornOut", "()Z"⟩
abbrev cX1_canForge : ByteArray := prog_3_method_5_code
def yX1_canForge : MethodName := ⟨RX1, "canForge", "()Z"⟩
abbrev cX1_grindMinute : ByteArray := prog_3_method_6_code
def yX1_grindMinute : MethodName := ⟨RX1, "grindMinute", "()V"⟩
abbrev cX1_property : ByteArray := prog_3_method_7_code
def yX1_property : MethodName := ⟨RX1, "property", "(I)I"⟩
def RX2 : String := "ForgeHeats$Heat"
def TX2 : u_T := fun k => match k with
  | 0 => ("ForgeHeats$Heat", "stock", "I", false)
  | 1 => ("ForgeHeats$Heat", "low", "I", false)
  | 2 => ("ForgeHeats$Heat", "high", "I", false)
  | 3 => ("ForgeHeats$Heat", "made", "I", false)
  | _ => ("ForgeHeats$Heat", "scrap", "I", false)
def tyX2 : Nat → FieldType := fun k => match k with
  | 0 => .int
  | 1 => .int
  | 2 => .int
  | 3 => .int
  | _ => .int
abbrev wsX20 : List Cond := u_ws RX2 TX2 5
theorem nmX2 : ∀ a, a < 5 → ∀ b, b < 5 → a ≠ b → (TX2 a).2.1 ≠ (TX2 b).2.1 := by decide +kernel
theorem tyX2_ok : ∀ k, k < 5 → parseFieldDescriptor (TX2 k).2.2.1 = some (tyX2 k) := by decide +kernel
abbrev cX2_init : ByteArray := prog_4_method_1_code
def yX2_init : MethodName := ⟨RX2, "<init>", "()V"⟩
abbrev cX2_copyFrom : ByteArray := prog_4_method_2_code
def yX2_copyFrom : MethodName := ⟨RX2, "copyFrom", "(LForgeHeats$Heat;)V"⟩
def RX3 : String := "ForgeHeats$Job"
def TX3 : u_T := fun k => match k with
  | 0 => ("ForgeHeats$Job", "number", "I", false)
  | 1 => ("ForgeHeats$Job", "die", "I", false)
  | 2 => ("ForgeHeats$Job", "heat", "I", false)
  | 3 => ("ForgeHeats$Job", "pieces", "I", false)
  | 4 => ("ForgeHeats$Job", "made", "I", false)
  | 5 => ("ForgeHeats$Job", "due", "I", false)
  | 6 => ("ForgeHeats$Job", "isRush", "Z", false)
  | _ => ("ForgeHeats$Job", "billets", "I", false)
def tyX3 : Nat → FieldType := fun k => match k with
  | 0 => .int
  | 1 => .int
  | 2 => .int
  | 3 => .int
  | 4 => .int
  | 5 => .int
  | 6 => .boolean
  | _ => .int
abbrev wsX30 : List Cond := u_ws RX3 TX3 8
theorem nmX3 : ∀ a, a < 8 → ∀ b, b < 8 → a ≠ b → (TX3 a).2.1 ≠ (TX3 b).2.1 := by decide +kernel
theorem tyX3_ok : ∀ k, k < 8 → parseFieldDescriptor (TX3 k).2.2.1 = some (tyX3 k) := by decide +kernel
abbrev cX3_init : ByteArray := prog_5_method_1_code
def yX3_init : MethodName := ⟨RX3, "<init>", "()V"⟩
abbrev cX3_copyFrom : ByteArray := prog_5_method_2_code
def yX3_copyFrom : MethodName := ⟨RX3, "copyFrom", "(LForgeHeats$Job;)V"⟩
abbrev cX3_comesBefore : ByteArray := prog_5_method_3_code
def yX3_comesBefore : MethodName := ⟨RX3, "comesBefore", "(LForgeHeats$Job;)Z"⟩
abbrev cX3_lack : ByteArray := prog_5_method_4_code
def yX3_lack : MethodName := ⟨RX3, "lack", "()I"⟩
def RX4 : String := "ForgeHeats$JobText"
def TX4 : u_T := fun k => match k with
  | 0 => ("ForgeHeats$JobText", "codes", "[C", true)
  | 1 => ("ForgeHeats$JobText", "length", "I", false)
  | 2 => ("ForgeHeats$JobText", "position", "I", false)
  | 3 => ("ForgeHeats$JobText", "expected", "I", false)
  | 4 => ("ForgeHeats$JobText", "pieces", "I", false)
  | 5 => ("ForgeHeats$JobText", "die", "I", false)
  | 6 => ("ForgeHeats$JobText", "heat", "I", false)
  | 7 => ("ForgeHeats$JobText", "due", "I", false)
  | _ => ("ForgeHeats$JobText", "isRush", "Z", false)
def tyX4 : Nat → FieldType := fun k => match k with
  | 0 => .array .char
  | 1 => .int
  | 2 => .int
  | 3 => .int
  | 4 => .int
  | 5 => .int
  | 6 => .int
  | 7 => .int
  | _ => .boolean
abbrev wsX40 : List Cond := u_ws RX4 TX4 9
theorem nmX4 : ∀ a, a < 9 → ∀ b, b < 9 → a ≠ b → (TX4 a).2.1 ≠ (TX4 b).2.1 := by decide +kernel
theorem tyX4_ok : ∀ k, k < 9 → parseFieldDescriptor (TX4 k).2.2.1 = some (tyX4 k) := by decide +kernel
abbrev cX4_init : ByteArray := prog_6_method_1_code
def yX4_init : MethodName := ⟨RX4, "<init>", "()V"⟩
abbrev cX4_isFull : ByteArray := prog_6_method_2_code
def yX4_isFull : MethodName := ⟨RX4, "isFull", "()Z"⟩
abbrev cX4_put : ByteArray := prog_6_method_3_code
def yX4_put : MethodName := ⟨RX4, "put", "(I)I"⟩
abbrev cX4_empty : ByteArray := prog_6_method_4_code
def yX4_empty : MethodName := ⟨RX4, "empty", "()I"⟩
abbrev cX4_codeAt : ByteArray := prog_6_method_5_code
def yX4_codeAt : MethodName := ⟨RX4, "codeAt", "(I)I"⟩
abbrev cX4_begin : ByteArray := prog_6_method_6_code
def yX4_begin : MethodName := ⟨RX4, "begin", "()V"⟩
abbrev cX4_firstWrong : ByteArray := prog_6_method_7_code
def yX4_firstWrong : MethodName := ⟨RX4, "firstWrong", "()I"⟩
abbrev cX4_isComplete : ByteArray := prog_6_method_8_code
def yX4_isComplete : MethodName := ⟨RX4, "isComplete", "()Z"⟩
abbrev cX4_countParts : ByteArray := prog_6_method_9_code
def yX4_countParts : MethodName := ⟨RX4, "countParts", "()I"⟩
abbrev cX4_readPart : ByteArray := prog_6_method_10_code
def yX4_readPart : MethodName := ⟨RX4, "readPart", "()V"⟩
abbrev cX4_read : ByteArray := prog_6_method_11_code
def yX4_read : MethodName := ⟨RX4, "read", "(I)Z"⟩
abbrev cX4_beginPart : ByteArray := prog_6_method_12_code
def yX4_beginPart : MethodName := ⟨RX4, "beginPart", "(I)V"⟩
abbrev cX4_readMoreDue : ByteArray := prog_6_method_13_code
def yX4_readMoreDue : MethodName := ⟨RX4, "readMoreDue", "(I)Z"⟩
abbrev cX4_readEnd : ByteArray := prog_6_method_14_code
def yX4_readEnd : MethodName := ⟨RX4, "readEnd", "(I)Z"⟩
abbrev cX4_readSeparator : ByteArray := prog_6_method_15_code
def yX4_readSeparator : MethodName := ⟨RX4, "readSeparator", "(I)Z"⟩
def RX5 : String := "ForgeHeats$Shop"
def TX5 : u_T := fun k => match k with
  | 0 => ("ForgeHeats$Shop", "heats", "[LForgeHeats$Heat;", true)
  | 1 => ("ForgeHeats$Shop", "dies", "[LForgeHeats$Die;", true)
  | 2 => ("ForgeHeats$Shop", "jobs", "[LForgeHeats$Job;", true)
  | 3 => ("ForgeHeats$Shop", "furnace", "[LForgeHeats$Billet;", true)
  | 4 => ("ForgeHeats$Shop", "press", "LForgeHeats$Billet;", true)
  | 5 => ("ForgeHeats$Shop", "jobCount", "I", false)
  | 6 => ("ForgeHeats$Shop", "nextNumber", "I", false)
  | 7 => ("ForgeHeats$Shop", "warming", "I", false)
  | 8 => ("ForgeHeats$Shop", "cooling", "I", false)
  | 9 => ("ForgeHeats$Shop", "reheats", "I", false)
  | 10 => ("ForgeHeats$Shop", "grinding", "I", false)
  | 11 => ("ForgeHeats$Shop", "minutes", "I", false)
  | 12 => ("ForgeHeats$Shop", "blows", "I", false)
  | 13 => ("ForgeHeats$Shop", "goneJobs", "I", false)
  | 14 => ("ForgeHeats$Shop", "lateJobs", "I", false)
  | 15 => ("ForgeHeats$Shop", "lateMinutes", "I", false)
  | 16 => ("ForgeHeats$Shop", "noHeat", "LForgeHeats$Heat;", true)
  | 17 => ("ForgeHeats$Shop", "noDie", "LForgeHeats$Die;", true)
  | _ => ("ForgeHeats$Shop", "noJob", "LForgeHeats$Job;", true)
def tyX5 : Nat → FieldType := fun k => match k with
  | 0 => .array (.object "ForgeHeats$Heat")
  | 1 => .array (.object "ForgeHeats$Die")
  | 2 => .array (.object "ForgeHeats$Job")
  | 3 => .array (.object "ForgeHeats$Billet")
  | 4 => .object "ForgeHeats$Billet"
  | 5 => .int
  | 6 => .int
  | 7 => .int
  | 8 => .int
  | 9 => .int
  | 10 => .int
  | 11 => .int
  | 12 => .int
  | 13 => .int
  | 14 => .int
  | 15 => .int
  | 16 => .object "ForgeHeats$Heat"
  | 17 => .object "ForgeHeats$Die"
  | _ => .object "ForgeHeats$Job"
abbrev wsX50 : List Cond := u_ws RX5 TX5 19
theorem nmX5 : ∀ a, a < 19 → ∀ b, b < 19 → a ≠ b → (TX5 a).2.1 ≠ (TX5 b).2.1 := by decide +kernel
theorem tyX5_ok : ∀ k, k < 19 → parseFieldDescriptor (TX5 k).2.2.1 = some (tyX5 k) := by decide +kernel
abbrev cX5_init : ByteArray := prog_7_method_1_code
def yX5_init : MethodName := ⟨RX5, "<init>", "()V"⟩
abbrev cX5_copyFrom : ByteArray := prog_7_method_2_code
def yX5_copyFrom : MethodName := ⟨RX5, "copyFrom", "(LForgeHeats$Shop;)V"⟩
abbrev cX5_copyNumbersFrom : ByteArray := prog_7_method_3_code
def yX5_copyNumbersFrom : MethodName := ⟨RX5, "copyNumbersFrom", "(LForgeHeats$Shop;)V"⟩
abbrev cX5_heatAt : ByteArray := prog_7_method_4_code
def yX5_heatAt : MethodName := ⟨RX5, "heatAt", "(I)LForgeHeats$Heat;"⟩
abbrev cX5_dieAt : ByteArray := prog_7_method_5_code
def yX5_dieAt : MethodName := ⟨RX5, "dieAt", "(I)LForgeHeats$Die;"⟩
abbrev cX5_jobAt : ByteArray := prog_7_method_6_code
def yX5_jobAt : MethodName := ⟨RX5, "jobAt", "(I)LForgeHeats$Job;"⟩
abbrev cX5_billetAt : ByteArray := prog_7_method_7_code
def yX5_billetAt : MethodName := ⟨RX5, "billetAt", "(I)LForgeHeats$Billet;"⟩
abbrev cX5_addJob : ByteArray := prog_7_method_8_code
def yX5_addJob : MethodName := ⟨RX5, "addJob", "(IIIIZ)I"⟩
abbrev cX5_hasten : ByteArray := prog_7_method_9_code
def yX5_hasten : MethodName := ⟨RX5, "hasten", "(IZ)I"⟩
abbrev cX5_settle : ByteArray := prog_7_method_10_code
def yX5_settle : MethodName := ⟨RX5, "settle", "(I)I"⟩
abbrev cX5_swapJobs : ByteArray := prog_7_method_11_code
def yX5_swapJobs : MethodName := ⟨RX5, "swapJobs", "(II)V"⟩
abbrev cX5_placeOf : ByteArray := prog_7_method_12_code
def yX5_placeOf : MethodName := ⟨RX5, "placeOf", "(I)I"⟩
abbrev cX5_removeJob : ByteArray := prog_7_method_13_code
def yX5_removeJob : MethodName := ⟨RX5, "removeJob", "(I)V"⟩
abbrev cX5_dropJob : ByteArray := prog_7_method_14_code
def yX5_dropJob : MethodName := ⟨RX5, "dropJob", "(I)I"⟩
abbrev cX5_valueOf : ByteArray := prog_7_method_15_code
def yX5_valueOf : MethodName := ⟨RX5, "valueOf", "(I)I"⟩
abbrev cX5_putValue : ByteArray := prog_7_method_16_code
def yX5_putValue : MethodName := ⟨RX5, "putValue", "(II)V"⟩
abbrev cX5_countMade : ByteArray := prog_7_method_17_code
def yX5_countMade : MethodName := ⟨RX5, "countMade", "()I"⟩
abbrev cX5_countScrap : ByteArray := prog_7_method_18_code
def yX5_countScrap : MethodName := ⟨RX5, "countScrap", "()I"⟩
abbrev cX5_countRushJobs : ByteArray := prog_7_method_19_code
def yX5_countRushJobs : MethodName := ⟨RX5, "countRushJobs", "()I"⟩
abbrev cX5_countInFurnace : ByteArray := prog_7_method_20_code
def yX5_countInFurnace : MethodName := ⟨RX5, "countInFurnace", "()I"⟩
abbrev cX5_heatProperty : ByteArray := prog_7_method_21_code
def yX5_heatProperty : MethodName := ⟨RX5, "heatProperty", "(II)I"⟩
abbrev cX5_countBilletsOf : ByteArray := prog_7_method_22_code
def yX5_countBilletsOf : MethodName := ⟨RX5, "countBilletsOf", "(I)I"⟩
abbrev cX5_countLackOf : ByteArray := prog_7_method_23_code
def yX5_countLackOf : MethodName := ⟨RX5, "countLackOf", "(I)I"⟩
abbrev cX5_jobProperty : ByteArray := prog_7_method_24_code
def yX5_jobProperty : MethodName := ⟨RX5, "jobProperty", "(II)I"⟩
abbrev cX5_reasonToWait : ByteArray := prog_7_method_25_code
def yX5_reasonToWait : MethodName := ⟨RX5, "reasonToWait", "(LForgeHeats$Job;)I"⟩
abbrev cX5_dieBeingGround : ByteArray := prog_7_method_26_code
def yX5_dieBeingGround : MethodName := ⟨RX5, "dieBeingGround", "()I"⟩
abbrev cX5_freePlace : ByteArray := prog_7_method_27_code
def yX5_freePlace : MethodName := ⟨RX5, "freePlace", "()LForgeHeats$Billet;"⟩
abbrev cX5_hottestReady : ByteArray := prog_7_method_28_code
def yX5_hottestReady : MethodName := ⟨RX5, "hottestReady", "(LForgeHeats$Job;)LForgeHeats$Billet;"⟩
abbrev cX5_passMinutes : ByteArray := prog_7_method_29_code
def yX5_passMinutes : MethodName := ⟨RX5, "passMinutes", "(I)V"⟩
abbrev cX5_passMinute : ByteArray := prog_7_method_30_code
def yX5_passMinute : MethodName := ⟨RX5, "passMinute", "()V"⟩
abbrev cX5_warmFurnace : ByteArray := prog_7_method_31_code
def yX5_warmFurnace : MethodName := ⟨RX5, "warmFurnace", "()V"⟩
abbrev cX5_chargeFurnace : ByteArray := prog_7_method_32_code
def yX5_chargeFurnace : MethodName := ⟨RX5, "chargeFurnace", "()V"⟩
abbrev cX5_loadPress : ByteArray := prog_7_method_33_code
def yX5_loadPress : MethodName := ⟨RX5, "loadPress", "()V"⟩
abbrev cX5_workPress : ByteArray := prog_7_method_34_code
def yX5_workPress : MethodName := ⟨RX5, "workPress", "(I)V"⟩
abbrev cX5_sendBack : ByteArray := prog_7_method_35_code
def yX5_sendBack : MethodName := ⟨RX5, "sendBack", "(LForgeHeats$Job;LForgeHeats$Heat;)V"⟩
abbrev cX5_countGone : ByteArray := prog_7_method_36_code
def yX5_countGone : MethodName := ⟨RX5, "countGone", "(LForgeHeats$Job;)V"⟩
abbrev cX5_tendDies : ByteArray := prog_7_method_37_code
def yX5_tendDies : MethodName := ⟨RX5, "tendDies", "()V"⟩
def RX6 : String := "ForgeHeats"
def TX6 : u_T := fun k => match k with
  | 0 => ("ForgeHeats", "shop", "LForgeHeats$Shop;", true)
  | 1 => ("ForgeHeats", "trial", "LForgeHeats$Shop;", true)
  | 2 => ("ForgeHeats", "past", "[LForgeHeats$Shop;", true)
  | 3 => ("ForgeHeats", "pastStates", "I", false)
  | _ => ("ForgeHeats", "text", "LForgeHeats$JobText;", true)
def tyX6 : Nat → FieldType := fun k => match k with
  | 0 => .object "ForgeHeats$Shop"
  | 1 => .object "ForgeHeats$Shop"
  | 2 => .array (.object "ForgeHeats$Shop")
  | 3 => .int
  | _ => .object "ForgeHeats$JobText"
abbrev wsX60 : List Cond := u_ws RX6 TX6 5
theorem nmX6 : ∀ a, a < 5 → ∀ b, b < 5 → a ≠ b → (TX6 a).2.1 ≠ (TX6 b).2.1 := by decide +kernel
theorem tyX6_ok : ∀ k, k < 5 → parseFieldDescriptor (TX6 k).2.2.1 = some (tyX6 k) := by decide +kernel
abbrev cX6_init : ByteArray := prog_1_method_1_code
def yX6_init : MethodName := ⟨RX6, "<init>", "()V"⟩
abbrev cX6_stock : ByteArray := prog_1_method_2_code
def yX6_stock : MethodName := ⟨RX6, "stock", "(II)I"⟩
abbrev cX6_range : ByteArray := prog_1_method_3_code
def yX6_range : MethodName := ⟨RX6, "range", "(III)I"⟩
abbrev cX6_die : ByteArray := prog_1_method_4_code
def yX6_die : MethodName := ⟨RX6, "die", "(III)I"⟩
abbrev cX6_grind : ByteArray := prog_1_method_5_code
def yX6_grind : MethodName := ⟨RX6, "grind", "(I)I"⟩
abbrev cX6_job : ByteArray := prog_1_method_6_code
def yX6_job : MethodName := ⟨RX6, "job", "(IIIIZ)I"⟩
abbrev cX6_cancel : ByteArray := prog_1_method_7_code
def yX6_cancel : MethodName := ⟨RX6, "cancel", "(I)I"⟩
abbrev cX6_rush : ByteArray := prog_1_method_8_code
def yX6_rush : MethodName := ⟨RX6, "rush", "(IZ)I"⟩
abbrev cX6_set : ByteArray := prog_1_method_9_code
def yX6_set : MethodName := ⟨RX6, "set", "(II)I"⟩
abbrev cX6_pass : ByteArray := prog_1_method_10_code
def yX6_pass : MethodName := ⟨RX6, "pass", "(I)I"⟩
abbrev cX6_append : ByteArray := prog_1_method_11_code
def yX6_append : MethodName := ⟨RX6, "append", "(I)I"⟩
abbrev cX6_clearBuffer : ByteArray := prog_1_method_12_code
def yX6_clearBuffer : MethodName := ⟨RX6, "clearBuffer", "()I"⟩
abbrev cX6_firstError : ByteArray := prog_1_method_13_code
def yX6_firstError : MethodName := ⟨RX6, "firstError", "()I"⟩
abbrev cX6_addAll : ByteArray := prog_1_method_14_code
def yX6_addAll : MethodName := ⟨RX6, "addAll", "()I"⟩
abbrev cX6_undo : ByteArray := prog_1_method_15_code
def yX6_undo : MethodName := ⟨RX6, "undo", "()I"⟩
abbrev cX6_heat : ByteArray := prog_1_method_16_code
def yX6_heat : MethodName := ⟨RX6, "heat", "(II)I"⟩
abbrev cX6_dieOf : ByteArray := prog_1_method_17_code
def yX6_dieOf : MethodName := ⟨RX6, "dieOf", "(II)I"⟩
abbrev cX6_jobOf : ByteArray := prog_1_method_18_code
def yX6_jobOf : MethodName := ⟨RX6, "jobOf", "(II)I"⟩
abbrev cX6_billet : ByteArray := prog_1_method_19_code
def yX6_billet : MethodName := ⟨RX6, "billet", "(II)I"⟩
abbrev cX6_count : ByteArray := prog_1_method_20_code
def yX6_count : MethodName := ⟨RX6, "count", "(I)I"⟩
abbrev cX6_setting : ByteArray := prog_1_method_21_code
def yX6_setting : MethodName := ⟨RX6, "setting", "(I)I"⟩
abbrev cX6_ifPassed : ByteArray := prog_1_method_22_code
def yX6_ifPassed : MethodName := ⟨RX6, "ifPassed", "(II)I"⟩
abbrev cX6_doneIn : ByteArray := prog_1_method_23_code
def yX6_doneIn : MethodName := ⟨RX6, "doneIn", "(I)I"⟩
abbrev cX6_ifRush : ByteArray := prog_1_method_24_code
def yX6_ifRush : MethodName := ⟨RX6, "ifRush", "(I)I"⟩
abbrev cX6_bestReheats : ByteArray := prog_1_method_25_code
def yX6_bestReheats : MethodName := ⟨RX6, "bestReheats", "(I)I"⟩
abbrev cX6_saved : ByteArray := prog_1_method_26_code
def yX6_saved : MethodName := ⟨RX6, "saved", "()D"⟩
abbrev cX6_digest : ByteArray := prog_1_method_27_code
def yX6_digest : MethodName := ⟨RX6, "digest", "()J"⟩
abbrev cX6_isWithin : ByteArray := prog_1_method_28_code
def yX6_isWithin : MethodName := ⟨RX6, "isWithin", "(III)Z"⟩
abbrev cX6_leastValue : ByteArray := prog_1_method_29_code
def yX6_leastValue : MethodName := ⟨RX6, "leastValue", "(I)I"⟩
abbrev cX6_mostValue : ByteArray := prog_1_method_30_code
def yX6_mostValue : MethodName := ⟨RX6, "mostValue", "(I)I"⟩
abbrev cX6_remember : ByteArray := prog_1_method_31_code
def yX6_remember : MethodName := ⟨RX6, "remember", "()V"⟩
abbrev cX6_dropOldest : ByteArray := prog_1_method_32_code
def yX6_dropOldest : MethodName := ⟨RX6, "dropOldest", "()V"⟩
abbrev cX6_pastAt : ByteArray := prog_1_method_33_code
def yX6_pastAt : MethodName := ⟨RX6, "pastAt", "(I)LForgeHeats$Shop;"⟩
abbrev cX6_numberOf : ByteArray := prog_1_method_34_code
def yX6_numberOf : MethodName := ⟨RX6, "numberOf", "(I)I"⟩
abbrev cX6_foresee : ByteArray := prog_1_method_35_code
def yX6_foresee : MethodName := ⟨RX6, "foresee", "(I)V"⟩
abbrev cX6_foreseen : ByteArray := prog_1_method_36_code
def yX6_foreseen : MethodName := ⟨RX6, "foreseen", "(I)I"⟩
abbrev cX6_goneBehind : ByteArray := prog_1_method_37_code
def yX6_goneBehind : MethodName := ⟨RX6, "goneBehind", "(I)I"⟩
abbrev cX6_gainByHaste : ByteArray := prog_1_method_38_code
def yX6_gainByHaste : MethodName := ⟨RX6, "gainByHaste", "(II)I"⟩
abbrev cX6_passUntilGone : ByteArray := prog_1_method_39_code
def yX6_passUntilGone : MethodName := ⟨RX6, "passUntilGone", "(I)I"⟩
abbrev cX6_bestNumberOfReheats : ByteArray := prog_1_method_40_code
def yX6_bestNumberOfReheats : MethodName := ⟨RX6, "bestNumberOfReheats", "(I)I"⟩
abbrev cX6_shareMade : ByteArray := prog_1_method_41_code
def yX6_shareMade : MethodName := ⟨RX6, "shareMade", "()D"⟩
abbrev cX6_bitsOf : ByteArray := prog_1_method_42_code
def yX6_bitsOf : MethodName := ⟨RX6, "bitsOf", "(D)J"⟩
abbrev cX6_mix : ByteArray := prog_1_method_43_code
def yX6_mix : MethodName := ⟨RX6, "mix", "(JJ)J"⟩
abbrev cX6_mixEquipment : ByteArray := prog_1_method_44_code
def yX6_mixEquipment : MethodName := ⟨RX6, "mixEquipment", "(J)J"⟩
abbrev cX6_mixJobs : ByteArray := prog_1_method_45_code
def yX6_mixJobs : MethodName := ⟨RX6, "mixJobs", "(J)J"⟩
def RX7 : String := "ForgeHeatsModel"
def TX7 : u_T := fun k => match k with
  | 0 => ("ForgeHeatsModel", "thrown", "I", false)
  | 1 => ("ForgeHeatsModel", "s", "[I", true)
  | 2 => ("ForgeHeatsModel", "aside", "[I", true)
  | 3 => ("ForgeHeatsModel", "saved", "[I", true)
  | 4 => ("ForgeHeatsModel", "savedMany", "I", false)
  | 5 => ("ForgeHeatsModel", "buffer", "[I", true)
  | 6 => ("ForgeHeatsModel", "length", "I", false)
  | 7 => ("ForgeHeatsModel", "at", "I", false)
  | 8 => ("ForgeHeatsModel", "isWell", "Z", false)
  | 9 => ("ForgeHeatsModel", "told", "[I", true)
  | 10 => ("ForgeHeatsModel", "toldMany", "I", false)
  | _ => ("ForgeHeatsModel", "hash", "J", false)
def tyX7 : Nat → FieldType := fun k => match k with
  | 0 => .int
  | 1 => .array .int
  | 2 => .array .int
  | 3 => .array .int
  | 4 => .int
  | 5 => .array .int
  | 6 => .int
  | 7 => .int
  | 8 => .boolean
  | 9 => .array .int
  | 10 => .int
  | _ => .long
abbrev wsX70 : List Cond := u_ws RX7 TX7 12
theorem nmX7 : ∀ a, a < 12 → ∀ b, b < 12 → a ≠ b → (TX7 a).2.1 ≠ (TX7 b).2.1 := by decide +kernel
theorem tyX7_ok : ∀ k, k < 12 → parseFieldDescriptor (TX7 k).2.2.1 = some (tyX7 k) := by decide +kernel
abbrev cX7_init : ByteArray := prog_9_method_1_code
def yX7_init : MethodName := ⟨RX7, "<init>", "()V"⟩
abbrev cX7_thrown : ByteArray := prog_9_method_2_code
def yX7_thrown : MethodName := ⟨RX7, "thrown", "()I"⟩
abbrev cX7_in : ByteArray := prog_9_method_3_code
def yX7_in : MethodName := ⟨RX7, "in", "(III)Z"⟩
abbrev cX7_fails : ByteArray := prog_9_method_4_code
def yX7_fails : MethodName := ⟨RX7, "fails", "(I)I"⟩
abbrev cX7_isHeat : ByteArray := prog_9_method_5_code
def yX7_isHeat : MethodName := ⟨RX7, "isHeat", "(I)Z"⟩
abbrev cX7_isDie : ByteArray := prog_9_method_6_code
def yX7_isDie : MethodName := ⟨RX7, "isDie", "(I)Z"⟩
abbrev cX7_saves : ByteArray := prog_9_method_7_code
def yX7_saves : MethodName := ⟨RX7, "saves", "()V"⟩
abbrev cX7_putAside : ByteArray := prog_9_method_8_code
def yX7_putAside : MethodName := ⟨RX7, "putAside", "()V"⟩
abbrev cX7_takeBack : ByteArray := prog_9_method_9_code
def yX7_takeBack : MethodName := ⟨RX7, "takeBack", "()V"⟩
abbrev cX7_heatOf : ByteArray := prog_9_method_10_code
def yX7_heatOf : MethodName := ⟨RX7, "heatOf", "(II)I"⟩
abbrev cX7_die0 : ByteArray := prog_9_method_11_code
def yX7_die0 : MethodName := ⟨RX7, "die0", "(II)I"⟩
abbrev cX7_job0 : ByteArray := prog_9_method_12_code
def yX7_job0 : MethodName := ⟨RX7, "job0", "(II)I"⟩
abbrev cX7_billet0 : ByteArray := prog_9_method_13_code
def yX7_billet0 : MethodName := ⟨RX7, "billet0", "(II)I"⟩
abbrev cX7_lay : ByteArray := prog_9_method_14_code
def yX7_lay : MethodName := ⟨RX7, "lay", "(III)V"⟩
abbrev cX7_isBeingGround : ByteArray := prog_9_method_15_code
def yX7_isBeingGround : MethodName := ⟨RX7, "isBeingGround", "(I)Z"⟩
abbrev cX7_isWornOut : ByteArray := prog_9_method_16_code
def yX7_isWornOut : MethodName := ⟨RX7, "isWornOut", "(I)Z"⟩
abbrev cX7_isFit : ByteArray := prog_9_method_17_code
def yX7_isFit : MethodName := ⟨RX7, "isFit", "(I)Z"⟩
abbrev cX7_jobWith : ByteArray := prog_9_method_18_code
def yX7_jobWith : MethodName := ⟨RX7, "jobWith", "(I)I"⟩
abbrev cX7_isAhead : ByteArray := prog_9_method_19_code
def yX7_isAhead : MethodName := ⟨RX7, "isAhead", "(II)Z"⟩
abbrev cX7_rankOf : ByteArray := prog_9_method_20_code
def yX7_rankOf : MethodName := ⟨RX7, "rankOf", "(I)I"⟩
abbrev cX7_jobAt : ByteArray := prog_9_method_21_code
def yX7_jobAt : MethodName := ⟨RX7, "jobAt", "(I)I"⟩
abbrev cX7_jobOn : ByteArray := prog_9_method_22_code
def yX7_jobOn : MethodName := ⟨RX7, "jobOn", "(I)I"⟩
abbrev cX7_billetsOf : ByteArray := prog_9_method_23_code
def yX7_billetsOf : MethodName := ⟨RX7, "billetsOf", "(III)I"⟩
abbrev cX7_lacks : ByteArray := prog_9_method_24_code
def yX7_lacks : MethodName := ⟨RX7, "lacks", "(I)I"⟩
abbrev cX7_freePlace : ByteArray := prog_9_method_25_code
def yX7_freePlace : MethodName := ⟨RX7, "freePlace", "()I"⟩
abbrev cX7_clears : ByteArray := prog_9_method_26_code
def yX7_clears : MethodName := ⟨RX7, "clears", "(I)V"⟩
abbrev cX7_moves : ByteArray := prog_9_method_27_code
def yX7_moves : MethodName := ⟨RX7, "moves", "(II)V"⟩
abbrev cX7_scraps : ByteArray := prog_9_method_28_code
def yX7_scraps : MethodName := ⟨RX7, "scraps", "(I)V"⟩
abbrev cX7_dropsJob : ByteArray := prog_9_method_29_code
def yX7_dropsJob : MethodName := ⟨RX7, "dropsJob", "(I)V"⟩
abbrev cX7_warms : ByteArray := prog_9_method_30_code
def yX7_warms : MethodName := ⟨RX7, "warms", "()V"⟩
abbrev cX7_loads : ByteArray := prog_9_method_31_code
def yX7_loads : MethodName := ⟨RX7, "loads", "()V"⟩
abbrev cX7_goesBack : ByteArray := prog_9_method_32_code
def yX7_goesBack : MethodName := ⟨RX7, "goesBack", "()V"⟩
abbrev cX7_makes : ByteArray := prog_9_method_33_code
def yX7_makes : MethodName := ⟨RX7, "makes", "(I)V"⟩
abbrev cX7_presses : ByteArray := prog_9_method_34_code
def yX7_presses : MethodName := ⟨RX7, "presses", "(I)V"⟩
abbrev cX7_hottest : ByteArray := prog_9_method_35_code
def yX7_hottest : MethodName := ⟨RX7, "hottest", "(I)I"⟩
abbrev cX7_takes : ByteArray := prog_9_method_36_code
def yX7_takes : MethodName := ⟨RX7, "takes", "()V"⟩
abbrev cX7_grinds : ByteArray := prog_9_method_37_code
def yX7_grinds : MethodName := ⟨RX7, "grinds", "()V"⟩
abbrev cX7_begins : ByteArray := prog_9_method_38_code
def yX7_begins : MethodName := ⟨RX7, "begins", "(I)V"⟩
abbrev cX7_minute : ByteArray := prog_9_method_39_code
def yX7_minute : MethodName := ⟨RX7, "minute", "()V"⟩
abbrev cX7_minutes : ByteArray := prog_9_method_40_code
def yX7_minutes : MethodName := ⟨RX7, "minutes", "(I)I"⟩
abbrev cX7_stock : ByteArray := prog_9_method_41_code
def yX7_stock : MethodName := ⟨RX7, "stock", "(II)I"⟩
abbrev cX7_range : ByteArray := prog_9_method_42_code
def yX7_range : MethodName := ⟨RX7, "range", "(III)I"⟩
abbrev cX7_die : ByteArray := prog_9_method_43_code
def yX7_die : MethodName := ⟨RX7, "die", "(III)I"⟩
abbrev cX7_grind : ByteArray := prog_9_method_44_code
def yX7_grind : MethodName := ⟨RX7, "grind", "(I)I"⟩
abbrev cX7_comes : ByteArray := prog_9_method_45_code
def yX7_comes : MethodName := ⟨RX7, "comes", "(IIIII)V"⟩
abbrev cX7_job : ByteArray := prog_9_method_46_code
def yX7_job : MethodName := ⟨RX7, "job", "(IIIIZ)I"⟩
abbrev cX7_cancel : ByteArray := prog_9_method_47_code
def yX7_cancel : MethodName := ⟨RX7, "cancel", "(I)I"⟩
abbrev cX7_rush : ByteArray := prog_9_method_48_code
def yX7_rush : MethodName := ⟨RX7, "rush", "(IZ)I"⟩
abbrev cX7_isSetting : ByteArray := prog_9_method_49_code
def yX7_isSetting : MethodName := ⟨RX7, "isSetting", "(II)Z"⟩
abbrev cX7_set : ByteArray := prog_9_method_50_code
def yX7_set : MethodName := ⟨RX7, "set", "(II)I"⟩
abbrev cX7_pass : ByteArray := prog_9_method_51_code
def yX7_pass : MethodName := ⟨RX7, "pass", "(I)I"⟩
abbrev cX7_append : ByteArray := prog_9_method_52_code
def yX7_append : MethodName := ⟨RX7, "append", "(I)I"⟩
abbrev cX7_clearBuffer : ByteArray := prog_9_method_53_code
def yX7_clearBuffer : MethodName := ⟨RX7, "clearBuffer", "()I"⟩
abbrev cX7_sign : ByteArray := prog_9_method_54_code
def yX7_sign : MethodName := ⟨RX7, "sign", "()I"⟩
abbrev cX7_takesSign : ByteArray := prog_9_method_55_code
def yX7_takesSign : MethodName := ⟨RX7, "takesSign", "(I)Z"⟩
abbrev cX7_number : ByteArray := prog_9_method_56_code
def yX7_number : MethodName := ⟨RX7, "number", "(II)I"⟩
abbrev cX7_readsPart : ByteArray := prog_9_method_57_code
def yX7_readsPart : MethodName := ⟨RX7, "readsPart", "()V"⟩
abbrev cX7_readsAll : ByteArray := prog_9_method_58_code
def yX7_readsAll : MethodName := ⟨RX7, "readsAll", "()V"⟩
abbrev cX7_firstError : ByteArray := prog_9_method_59_code
def yX7_firstError : MethodName := ⟨RX7, "firstError", "()I"⟩
abbrev cX7_addAll : ByteArray := prog_9_method_60_code
def yX7_addAll : MethodName := ⟨RX7, "addAll", "()I"⟩
abbrev cX7_undo : ByteArray := prog_9_method_61_code
def yX7_undo : MethodName := ⟨RX7, "undo", "()I"⟩
abbrev cX7_billetsWith : ByteArray := prog_9_method_62_code
def yX7_billetsWith : MethodName := ⟨RX7, "billetsWith", "(I)I"⟩
abbrev cX7_lackedWith : ByteArray := prog_9_method_63_code
def yX7_lackedWith : MethodName := ⟨RX7, "lackedWith", "(I)I"⟩
abbrev cX7_tellsHeat : ByteArray := prog_9_method_64_code
def yX7_tellsHeat : MethodName := ⟨RX7, "tellsHeat", "(II)I"⟩
abbrev cX7_heat : ByteArray := prog_9_method_65_code
def yX7_heat : MethodName := ⟨RX7, "heat", "(II)I"⟩
abbrev cX7_tellsDie : ByteArray := prog_9_method_66_code
def yX7_tellsDie : MethodName := ⟨RX7, "tellsDie", "(II)I"⟩
abbrev cX7_dieOf : ByteArray := prog_9_method_67_code
def yX7_dieOf : MethodName := ⟨RX7, "dieOf", "(II)I"⟩
abbrev cX7_reason : ByteArray := prog_9_method_68_code
def yX7_reason : MethodName := ⟨RX7, "reason", "(I)I"⟩
abbrev cX7_tellsJob : ByteArray := prog_9_method_69_code
def yX7_tellsJob : MethodName := ⟨RX7, "tellsJob", "(II)I"⟩
abbrev cX7_jobOf : ByteArray := prog_9_method_70_code
def yX7_jobOf : MethodName := ⟨RX7, "jobOf", "(II)I"⟩
abbrev cX7_tellsBillet : ByteArray := prog_9_method_71_code
def yX7_tellsBillet : MethodName := ⟨RX7, "tellsBillet", "(II)I"⟩
abbrev cX7_billet : ByteArray := prog_9_method_72_code
def yX7_billet : MethodName := ⟨RX7, "billet", "(II)I"⟩
abbrev cX7_rushJobs : ByteArray := prog_9_method_73_code
def yX7_rushJobs : MethodName := ⟨RX7, "rushJobs", "()I"⟩
abbrev cX7_inFurnace : ByteArray := prog_9_method_74_code
def yX7_inFurnace : MethodName := ⟨RX7, "inFurnace", "()I"⟩
abbrev cX7_counts : ByteArray := prog_9_method_75_code
def yX7_counts : MethodName := ⟨RX7, "counts", "(I)I"⟩
abbrev cX7_count : ByteArray := prog_9_method_76_code
def yX7_count : MethodName := ⟨RX7, "count", "(I)I"⟩
abbrev cX7_setting : ByteArray := prog_9_method_77_code
def yX7_setting : MethodName := ⟨RX7, "setting", "(I)I"⟩
abbrev cX7_passed : ByteArray := prog_9_method_78_code
def yX7_passed : MethodName := ⟨RX7, "passed", "(II)I"⟩
abbrev cX7_ifPassed : ByteArray := prog_9_method_79_code
def yX7_ifPassed : MethodName := ⟨RX7, "ifPassed", "(II)I"⟩
abbrev cX7_untilGone : ByteArray := prog_9_method_80_code
def yX7_untilGone : MethodName := ⟨RX7, "untilGone", "(IZ)I"⟩
abbrev cX7_doneIn : ByteArray := prog_9_method_81_code
def yX7_doneIn : MethodName := ⟨RX7, "doneIn", "(I)I"⟩
abbrev cX7_earlier : ByteArray := prog_9_method_82_code
def yX7_earlier : MethodName := ⟨RX7, "earlier", "(I)I"⟩
abbrev cX7_ifRush : ByteArray := prog_9_method_83_code
def yX7_ifRush : MethodName := ⟨RX7, "ifRush", "(I)I"⟩
abbrev cX7_reheatsFor : ByteArray := prog_9_method_84_code
def yX7_reheatsFor : MethodName := ⟨RX7, "reheatsFor", "(I)I"⟩
abbrev cX7_bestReheats : ByteArray := prog_9_method_85_code
def yX7_bestReheats : MethodName := ⟨RX7, "bestReheats", "(I)I"⟩
abbrev cX7_saved : ByteArray := prog_9_method_86_code
def yX7_saved : MethodName := ⟨RX7, "saved", "()D"⟩
abbrev cX7_hashes : ByteArray := prog_9_method_87_code
def yX7_hashes : MethodName := ⟨RX7, "hashes", "(J)V"⟩
abbrev cX7_hashesShop : ByteArray := prog_9_method_88_code
def yX7_hashesShop : MethodName := ⟨RX7, "hashesShop", "()V"⟩
abbrev cX7_digest : ByteArray := prog_9_method_89_code
def yX7_digest : MethodName := ⟨RX7, "digest", "()J"⟩
def RJxe99ae : String := "java/lang/Double"
def TJxe99ae : u_T := fun k => match k with
  | _ => ("", "", "", false)
def tyJxe99ae : Nat → FieldType := fun k => match k with
  | _ => .int
abbrev wsJxe99ae0 : List Cond := u_ws RJxe99ae TJxe99ae 0
abbrev cJxe99ae_isNaN_b9ae7 : ByteArray := prog_10_method_6_code
def yJxe99ae_isNaN_b9ae7 : MethodName := ⟨RJxe99ae, "isNaN", "(D)Z"⟩
abbrev cJxe99ae_doubleToLongBits_ccdee : ByteArray := prog_10_method_23_code
def yJxe99ae_doubleToLongBits_ccdee : MethodName := ⟨RJxe99ae, "doubleToLongBits", "(D)J"⟩
def RJ9 : String := "java/lang/Math"
def TJ9 : u_T := fun k => match k with
  | _ => ("", "", "", false)
def tyJ9 : Nat → FieldType := fun k => match k with
  | _ => .int
abbrev wsJ90 : List Cond := u_ws RJ9 TJ9 0
abbrev cJ9_max_7cf53 : ByteArray := prog_15_method_65_code
def yJ9_max_7cf53 : MethodName := ⟨RJ9, "max", "(II)I"⟩
abbrev cJ9_min_7cf53 : ByteArray := prog_15_method_69_code
def yJ9_min_7cf53 : MethodName := ⟨RJ9, "min", "(II)I"⟩
def RJ0 : String := "java/lang/String"
def TJ0 : u_T := fun k => match k with
  | _ => ("", "", "", false)
def tyJ0 : Nat → FieldType := fun k => match k with
  | _ => .int
abbrev wsJ00 : List Cond := u_ws RJ0 TJ0 0
def RL : String := "ForgeHeatsLaw"
abbrev cL_stock : ByteArray := method_3_code
def yL_stock : MethodName := ⟨RL, "stock", "(LForgeHeats;II[J)I"⟩
abbrev cL_range : ByteArray := method_4_code
def yL_range : MethodName := ⟨RL, "range", "(LForgeHeats;III[J)I"⟩
abbrev cL_die : ByteArray := method_5_code
def yL_die : MethodName := ⟨RL, "die", "(LForgeHeats;III[J)I"⟩
abbrev cL_grind : ByteArray := method_6_code
def yL_grind : MethodName := ⟨RL, "grind", "(LForgeHeats;I[J)I"⟩
abbrev cL_job : ByteArray := method_7_code
def yL_job : MethodName := ⟨RL, "job", "(LForgeHeats;IIIIZ[J)I"⟩
abbrev cL_cancel : ByteArray := method_8_code
def yL_cancel : MethodName := ⟨RL, "cancel", "(LForgeHeats;I[J)I"⟩
abbrev cL_rush : ByteArray := method_9_code
def yL_rush : MethodName := ⟨RL, "rush", "(LForgeHeats;IZ[J)I"⟩
abbrev cL_set : ByteArray := method_10_code
def yL_set : MethodName := ⟨RL, "set", "(LForgeHeats;II[J)I"⟩
abbrev cL_pass : ByteArray := method_11_code
def yL_pass : MethodName := ⟨RL, "pass", "(LForgeHeats;I[J)I"⟩
abbrev cL_append : ByteArray := method_12_code
def yL_append : MethodName := ⟨RL, "append", "(LForgeHeats;I[J)I"⟩
abbrev cL_addAll : ByteArray := method_13_code
def yL_addAll : MethodName := ⟨RL, "addAll", "(LForgeHeats;[J)I"⟩
abbrev cL_undo : ByteArray := method_14_code
def yL_undo : MethodName := ⟨RL, "undo", "(LForgeHeats;[J)I"⟩
abbrev cL_heat : ByteArray := method_15_code
def yL_heat : MethodName := ⟨RL, "heat", "(LForgeHeats;II[J)I"⟩
abbrev cL_dieOf : ByteArray := method_16_code
def yL_dieOf : MethodName := ⟨RL, "dieOf", "(LForgeHeats;II[J)I"⟩
abbrev cL_jobOf : ByteArray := method_17_code
def yL_jobOf : MethodName := ⟨RL, "jobOf", "(LForgeHeats;II[J)I"⟩
abbrev cL_billet : ByteArray := method_18_code
def yL_billet : MethodName := ⟨RL, "billet", "(LForgeHeats;II[J)I"⟩
abbrev cL_count : ByteArray := method_19_code
def yL_count : MethodName := ⟨RL, "count", "(LForgeHeats;I[J)I"⟩
abbrev cL_setting : ByteArray := method_20_code
def yL_setting : MethodName := ⟨RL, "setting", "(LForgeHeats;I[J)I"⟩
abbrev cL_ifPassed : ByteArray := method_21_code
def yL_ifPassed : MethodName := ⟨RL, "ifPassed", "(LForgeHeats;II[J)I"⟩
abbrev cL_doneIn : ByteArray := method_22_code
def yL_doneIn : MethodName := ⟨RL, "doneIn", "(LForgeHeats;I[J)I"⟩
abbrev cL_ifRush : ByteArray := method_23_code
def yL_ifRush : MethodName := ⟨RL, "ifRush", "(LForgeHeats;I[J)I"⟩
abbrev cL_bestReheats : ByteArray := method_24_code
def yL_bestReheats : MethodName := ⟨RL, "bestReheats", "(LForgeHeats;I[J)I"⟩
abbrev cL_law : ByteArray := code
def yL_law : MethodName := ⟨RL, "law", "([I)Z"⟩
end
section
/-! ===== BEGIN exceptions that leave a method, and their catching by the caller (launches without stack traces) ===== -/
section VXA
/-! The laws vx_back, vx_callV, vx_callS, vx_callSW, vx_throw0, vx_throwS follow proofs of the library, with one case more: JvmDerived/Free/Laws.lean (Back.of_free), Shelf42/LK1.lean (callV, callS), Shelf/KitTraced.lean (throwNew0V, throwNewS). -/
/-- where a method has thrown q: the class by its name, the cell, what was written, the world -/
def vx_T (XC : String → State → State → Prop) (st : State) (q : Addr) (t : State) (mc ms : Nat) (free : Addr → Prop) : Prop :=
  ∃ (E : String) (ce : Cell) (L : List Loc), XC E st t ∧ t.heap[q]? = some ce ∧ ce.vm = .none ∧ st.vm.findClass E = some ce.cls ∧ st.WarmedH t.vm ∧ st.sameButNew ({ t with vm := st.vm } : State) L mc ms ∧ ∀ z ∈ L, free z.base
def vx_Q (Qc : Array Value → State → Outcome → State → Prop) (XC : String → State → State → Prop) (mc ms : Nat) (free : Addr → Prop) : Array Value → State → Outcome → State → Prop := fun a st o t =>
  (Qc a st o t ∧ ∃ L, FrameEnd st o t L mc ms ∧ ∀ q ∈ L, free q.base) ∨ ∃ q, o = .threw q ∧ vx_T XC st q t mc ms free
/-- a callee that returns or throws -/
def vx_Met (l : Launch) (y : MethodName) (ws : List Cond) (rm : Room) (Pc : Array Value → State → Prop) (Qc : Array Value → State → Outcome → State → Prop) (XC : String → State → State → Prop) (mc ms : Nat) (free : Addr → Prop) : Prop :=
  MetFree l y (headSpec ws rm) Pc (fun _ _ _ _ _ => True) (vx_Q Qc XC mc ms free)
def vx_Post (XC : String → State → State → Prop) (mc ms : Nat) (free : Addr → Prop) : Pt → Array Value → Addr → Pt → Prop := fun A a q B =>
  ∃ (g : JFrame) (mk : MethodId) (t : State) (L : List Loc) (E : String) (ce : Cell), B.U.heap = t.heap ∧ B.U.vm = t.vm ∧ XC E (A.U.calling g mk a) t ∧ t.heap[q]? = some ce ∧ ce.vm = .none ∧ A.U.vm.findClass E = some ce.cls ∧ B.locs = A.locs ++ L ∧ (∀ z ∈ L, free z.base) ∧ B.cells = A.cells + mc ∧ B.slots = A.slots + ms
def vx_Back (l : Launch) (R : Room) (p : Program) (e : Env) (below : List Frame) (s : State) (sargs : Array Value) (y : MethodName) (len W9 : Nat)
    (Pre : Pt → Array Value → Prop) (Post : Pt → Array Value → Option Value → Pt → Prop) (PostX : Pt → Array Value → Addr → Pt → Prop) : Prop :=
  ∀ (m : MethodId) (meth : Method) (c : Code) (A : Pt) (g : JFrame) (ig : Instr) (mk : MethodId) (a : Array Value),
    Stand p l e R s m sargs below meth c A.U A.locs A.cells A.slots → g.method = m → g.locals.size = c.maxLocals → decode c.code g.pc = .ok (ig, len) →
    2 * g.monitorRoom + (g.stack.map fun v => v.category).sum ≤ W9 → A.U.methodNamed? y = some mk → Pre A a →
    (∃ (v : Option Value) (B : Pt), Stand p l e R s m sargs below meth c B.U B.locs B.cells B.slots ∧ Post A a v B ∧
      Steps p.tables e below (doInvoke e (A.U.setTop g) [] mk a).1 (B.U.setTop { g with pc := g.pc + len, stack := v.toList ++ g.stack })) ∨
    (∃ (q : Addr) (B : Pt), Stand p l e R s m sargs below meth c B.U B.locs B.cells B.slots ∧ PostX A a q B ∧
      Steps p.tables e below (doInvoke e (A.U.setTop g) [] mk a).1 ((B.U.setTop g).pushFrame (.throwing q)))
section Payer
variable {l : Launch} {R : Room} {p : Program} {e : Env} {below : List Frame} {s : State} {sargs : Array Value} {y : MethodName} {len W9 : Nat}
theorem vx_back {ws : List Cond} {rm : Room} {Pc : Array Value → State → Prop} {Qc : Array Value → State → Outcome → State → Prop} {XC : String → State → State → Prop} {mc ms : Nat} {free : Addr → Prop} {bytes : ByteArray} {maxL : Nat} {ret : Option FieldType}
    (hM : vx_Met l y ws rm Pc Qc XC mc ms free) (hblind : FrameBlind Pc) (hrc : rm.cells = mc) (hrs : rm.slots = ms)
    (hframes : rm.frames + 1 ≤ R.frames) (hlocals : W9 + (maxL + 11) + rm.locals ≤ R.locals)
    (hws : ∀ w ∈ ws, ∀ a' U, s.WarmedH U.vm → w.before a' U = true) (hcode : Cond.code y bytes maxL ret ∈ ws) (hinit : ∀ a' U, s.WarmedH U.vm → (Cond.initialized y.cls).before a' U = true) :
    vx_Back l R p e below s sargs y len W9 (PreOf R mc ms Pc) (PostOf Qc mc ms free) (vx_Post XC mc ms free) := by
  intro m meth c A g ig mk a X hg hsize hdg hW hn hp
  have h1 : (headSpec ws rm).pre.before a A.U = true := atoms_intro fun w hw => hws w hw _ _ X.warmed
  have h2 : (Cond.code y bytes maxL ret).before a A.U = true := hws _ hcode _ _ X.warmed
  have h3 : (Cond.initialized y.cls).before a A.U = true := hinit _ _ X.warmed
  have h4 : A.cells + (headSpec ws rm).room.cells ≤ R.cells := by rw [show (headSpec ws rm).room.cells = mc from hrc]; exact hp.1
  have h5 : A.slots + (headSpec ws rm).room.slots ≤ R.slots := by rw [show (headSpec ws rm).room.slots = ms from hrs]; exact hp.2.1
  have hPc : Pc a (A.U.calling g mk a) := hblind _ _ _ _ hp.2.2
  obtain ⟨U, Ls, c0, s0⟩ := A
  dsimp only [Pt.U, Pt.locs, Pt.cells, Pt.slots] at h1 h2 h3 h4 h5 X hn hPc ⊢
  obtain ⟨methY, cY, hmY, hcY, -, hlY, -, -, -, -⟩ := Cond.code_spec hn h2
  obtain ⟨kY, hkY, -⟩ := className_of_methodNamed hn
  have hinitY : kY.init = .initialized := Cond.initialized_spec (findClass_of_methodNamed hn) hkY h3
  have h : At U g.method c below := by rw [hg]; exact X.here
  have hlocals9 : W9 + (maxL + 11) + (headSpec ws rm).room.locals ≤ R.locals := hlocals
  have happ : (headSpec ws rm).appliesLoose y e.platform (U.calling g mk a) = true :=
    Spec.appliesLoose_calling (g := g) h hdg hn hkY hinitY
      (X.room_calling (g := g) (R' := (headSpec ws rm).room) hsize hmY hcY hframes (by rw [hlY]; omega) h4 h5) h1
  obtain ⟨mid, hmid⟩ := h.above
  have hfr : (U.setTop g).frames = (.java g :: mid) ++ below := by rw [State.frames_setTop' g h.top, hmid]; rfl
  obtain ⟨o, s₂, hsteps, -, hend, hq⟩ := Steps.callFree hM p X.admits X.cas X.clock (acts := []) hfr happ hPc trivial
  have hq' : vx_Q Qc XC mc ms free a (U.calling g mk a) o s₂ := hq
  rw [State.frames_setTop' g h.top] at hend
  obtain ⟨g₀, hg0⟩ := Option.isSome_iff_exists.mp h.top
  obtain ⟨r, hr⟩ := State.topJava?_eq_some.mp hg0
  have hr' : (({ U with heap := s₂.heap, slotsUsed := s₂.slotsUsed } : State).setVm s₂.vm).frames = .java g₀ :: r := hr
  rcases hq' with ⟨hqc, L, hfe, hL⟩ | ⟨q, rfl, E, ce, L, hx, hce, hcv, hcl, hW₂, hsm, hL⟩
  · obtain ⟨⟨v, rfl⟩, hW₂, e2, q2, q3, q4, q5, q6⟩ := id hfe
    have e3 : s₂ = ({ (U.calling g mk a).setFrames s₂.frames with heap := s₂.heap, slotsUsed := s₂.slotsUsed } : State).setVm s₂.vm := by
      have : s₂ = ({ s₂ with vm := (U.calling g mk a).vm } : State).setVm s₂.vm := rfl
      rw [e2] at this
      exact this
    obtain ⟨c₂, i₂, len₂, hc₂, hd₂, hf₂⟩ := hend
    have hW' : U.WarmedH s₂.vm := hW₂
    have hcc : c₂ = c := by
      have h1 : s₂.code? g.method = U.code? g.method := by
        rw [State.code?_eq, State.code?_eq, hW'.alike.method?]
      exact Option.some.inj (hc₂.symm.trans (h1.trans h.code))
    subst hcc
    have hlen : len₂ = len := by rw [hdg] at hd₂; cases hd₂; rfl
    subst hlen
    have hs₂ : s₂ = (({ U with heap := s₂.heap, slotsUsed := s₂.slotsUsed } : State).setVm s₂.vm).setTop { g with pc := g.pc + len₂, stack := v.toList ++ g.stack } := by
      refine e3.trans ?_
      rw [hf₂, State.calling_eq h.top, State.setFrames_setFrames, State.setTop_of_frames _ hr', hr]
      rfl
    have hsame : U.sameButNew ({ U with heap := s₂.heap, slotsUsed := s₂.slotsUsed } : State) L mc ms := by
      refine ⟨?_, q2, q3, q4, q5, q6⟩
      obtain ⟨t, ht, -⟩ := State.frames_cons hr
      show ({ U with heap := s₂.heap, slotsUsed := s₂.slotsUsed } : State) = { U.setFrames U.frames with heap := s₂.heap, slotsUsed := s₂.slotsUsed }
      rw [State.setFrames_self ht]
    subst hg
    refine Or.inl ⟨v, ⟨(({ U with heap := s₂.heap, slotsUsed := s₂.slotsUsed } : State).setVm s₂.vm), Ls ++ L, c0 + mc, s0 + ms⟩,
      ⟨X.admits, X.cas, X.clock, X.frames, X.room, X.hears, X.method, X.code, (X.here.setHeapUsed s₂.heap s₂.slotsUsed).setVm hW'.alike, X.tail, State.WarmedH.trans X.warmed hW', X.limits, X.bytes, X.same.trans (hsame.setVm s.vm)⟩,
      ⟨g, mk, s₂, L, rfl, rfl, hqc, rfl, hL, rfl, rfl⟩, ?_⟩
    show Steps p.tables e below _ ((({ U with heap := s₂.heap, slotsUsed := s₂.slotsUsed } : State).setVm s₂.vm).setTop { g with pc := g.pc + len₂, stack := v.toList ++ g.stack })
    rw [← hs₂]
    exact hsteps
  · obtain ⟨e2, q2, q3, q4, q5, q6⟩ := id hsm
    have e3 : s₂ = ({ (U.calling g mk a).setFrames s₂.frames with heap := s₂.heap, slotsUsed := s₂.slotsUsed } : State).setVm s₂.vm := by
      have : s₂ = ({ s₂ with vm := (U.calling g mk a).vm } : State).setVm s₂.vm := rfl
      rw [e2] at this
      exact this
    have hf₂ : s₂.frames = .throwing q :: .java g :: U.frames.tail := hend
    have hW' : U.WarmedH s₂.vm := hW₂
    have hs₂ : s₂ = ((({ U with heap := s₂.heap, slotsUsed := s₂.slotsUsed } : State).setVm s₂.vm).setTop g).pushFrame (.throwing q) := by
      refine e3.trans ?_
      rw [hf₂, State.calling_eq h.top, State.setFrames_setFrames, State.pushFrame, State.frames_setTop _ hr', State.setTop_of_frames _ hr', State.setFrames_setFrames, hr]
      rfl
    have hsame : U.sameButNew ({ U with heap := s₂.heap, slotsUsed := s₂.slotsUsed } : State) L mc ms := by
      refine ⟨?_, q2, q3, q4, q5, q6⟩
      obtain ⟨t, ht, -⟩ := State.frames_cons hr
      show ({ U with heap := s₂.heap, slotsUsed := s₂.slotsUsed } : State) = { U.setFrames U.frames with heap := s₂.heap, slotsUsed := s₂.slotsUsed }
      rw [State.setFrames_self ht]
    subst hg
    refine Or.inr ⟨q, ⟨(({ U with heap := s₂.heap, slotsUsed := s₂.slotsUsed } : State).setVm s₂.vm), Ls ++ L, c0 + mc, s0 + ms⟩,
      ⟨X.admits, X.cas, X.clock, X.frames, X.room, X.hears, X.method, X.code, (X.here.setHeapUsed s₂.heap s₂.slotsUsed).setVm hW'.alike, X.tail, State.WarmedH.trans X.warmed hW', X.limits, X.bytes, X.same.trans (hsame.setVm s.vm)⟩,
      ⟨g, mk, s₂, L, E, ce, rfl, rfl, hx, hce, hcv, hcl, rfl, hL, rfl, rfl⟩, ?_⟩
    show Steps p.tables e below _ (((({ U with heap := s₂.heap, slotsUsed := s₂.slotsUsed } : State).setVm s₂.vm).setTop g).pushFrame (.throwing q))
    rw [← hs₂]
    exact hsteps
end Payer
section Calls
variable {p : Program} {l : Launch} {e : Env} {R : Room} {s : State} {m : MethodId} {args : Array Value} {below : List Frame} {meth : Method} {c : Code} {T : State} {locs : List Loc} {cells slots : Nat}
theorem vx_callV (X : Stand p l e R s m args below meth c T locs cells slots) (hexec : p.tables.exec = Jvm.exec) {own C : String} {index : Nat} {y : MethodName} {bytes : ByteArray} {maxL : Nat} {ret : Option FieldType}
    (hown : s.vm.findClass own = some m.cls) (hlink : (Cond.methodLink own index y).before args s = true) (hinst : (Cond.instanceMethod y).before args s = true) (hsel : (Cond.selects C y y).before args s = true)
    (hcode : (Cond.code y bytes maxL ret).before args s = true) (hy : y.cls ≠ "java/lang/invoke/MethodHandle" ∧ y.cls ≠ "java/lang/invoke/VarHandle")
    {W9 : Nat} {Pre : Pt → Array Value → Prop} {Post : Pt → Array Value → Option Value → Pt → Prop} {PostX : Pt → Array Value → Addr → Pt → Prop} (hK : vx_Back l R p e below s args y 3 W9 Pre Post PostX)
    {b : Addr} {cellB : Cell} (hcell : T.heap[b]? = some cellB) (hobj : cellB.vm.isStatics = false) (hcls : s.vm.findClass C = some cellB.cls)
    {g : JFrame} (hg : g.method = m) (hsize : g.locals.size = c.maxLocals) {argsL rest : List Value} (hlen : ∀ sig, parseMethodDescriptor y.desc = some sig → argsL.length = sig.parameters.length)
    (hstack : g.stack = argsL.reverse ++ .ref b :: rest) (hW : 2 * g.monitorRoom + (rest.map fun v => v.category).sum ≤ W9) (hdg : decode c.code g.pc = .ok (.invokevirtual index, 3))
    (hpre : ∀ vm₁, s.WarmedH vm₁ → Pre ⟨T.setVm vm₁, locs, cells, slots⟩ (Value.ref b :: argsL).toArray) :
    (∃ (v : Option Value) (vm₁ : Vm) (B : Pt), s.WarmedH vm₁ ∧ Stand p l e R s m args below meth c B.U B.locs B.cells B.slots ∧ Post ⟨T.setVm vm₁, locs, cells, slots⟩ (Value.ref b :: argsL).toArray v B ∧
      ∀ target, Steps p.tables e below (B.U.setTop { g with pc := g.pc + 3, stack := v.toList ++ rest }) target → Steps p.tables e below (T.setTop g) target) ∨
    (∃ (q : Addr) (vm₁ : Vm) (B : Pt), s.WarmedH vm₁ ∧ Stand p l e R s m args below meth c B.U B.locs B.cells B.slots ∧ PostX ⟨T.setVm vm₁, locs, cells, slots⟩ (Value.ref b :: argsL).toArray q B ∧
      Steps p.tables e below (T.setTop g) ((B.U.setTop { g with stack := rest }).pushFrame (.throwing q))) := by
  obtain ⟨mk, methM, hnamed, hmethM, hstM, habM⟩ := Cond.instanceMethod_spec hinst
  obtain ⟨methM', cM, hmethM', -, -, -, -, -, -, hsigM⟩ := Cond.code_spec hnamed hcode
  cases hmethM.symm.trans hmethM'
  obtain ⟨c2, r2, m2, q1, q2, q3, q4, kP, hkP, hkPi⟩ := Cond.selects_spec hsel
  cases hcls.symm.trans q1
  cases (State.methodFound?_of_named hnamed hy).symm.trans q2
  cases hnamed.symm.trans q3
  have hselP : selectMethod e.platform s.vm cellB.cls mk = .method mk := by rw [Launch.admits_selectMethod X.admits]; exact q4
  obtain ⟨vm₁, X₁, hstep₁⟩ := X.invokevirtual hexec hown hlink hnamed hmethM hstM hkP hkPi hy (a := b) (cell := cellB) hcell
    (fun z h => by rw [h] at hobj; cases hobj) hselP hmethM habM hkP hkPi (g := g) hg (argsL := argsL) (rest := rest) (hlen _ hsigM) hstack hdg
  rcases hK m meth c ⟨T.setVm vm₁, locs, cells, slots⟩ { g with stack := rest } (.invokevirtual index) mk (Value.ref b :: argsL).toArray X₁ hg hsize hdg hW (X₁.named hnamed) (hpre vm₁ X₁.warmed) with ⟨v, B, X', hpost, hsteps⟩ | ⟨q, B, X', hpost, hsteps⟩
  · exact Or.inl ⟨v, vm₁, B, X₁.warmed, X', hpost, fun target h => hstep₁ _ fun acts => by rw [doInvoke_state]; exact hsteps.trans h⟩
  · exact Or.inr ⟨q, vm₁, B, X₁.warmed, X', hpost, hstep₁ _ fun acts => by rw [doInvoke_state]; exact hsteps⟩
theorem vx_callS (X : Stand p l e R s m args below meth c T locs cells slots) (hexec : p.tables.exec = Jvm.exec) {own : String} {index : Nat} {y : MethodName} {bytes : ByteArray} {maxL : Nat} {ret : Option FieldType}
    (hown : s.vm.findClass own = some m.cls) (hlink : (Cond.methodLink own index y).before args s = true) (hstat : (Cond.static y).before args s = true) (hinit : (Cond.initialized y.cls).before args s = true)
    (hcode : (Cond.code y bytes maxL ret).before args s = true) (hy : y.cls ≠ "java/lang/invoke/MethodHandle" ∧ y.cls ≠ "java/lang/invoke/VarHandle")
    {W9 : Nat} {Pre : Pt → Array Value → Prop} {Post : Pt → Array Value → Option Value → Pt → Prop} {PostX : Pt → Array Value → Addr → Pt → Prop} (hK : vx_Back l R p e below s args y 3 W9 Pre Post PostX)
    {g : JFrame} (hg : g.method = m) (hsize : g.locals.size = c.maxLocals) {argsL rest : List Value} (hlen : ∀ sig, parseMethodDescriptor y.desc = some sig → argsL.length = sig.parameters.length)
    (hstack : g.stack = argsL.reverse ++ rest) (hW : 2 * g.monitorRoom + (rest.map fun v => v.category).sum ≤ W9) (hdg : decode c.code g.pc = .ok (.invokestatic index, 3))
    (hpre : ∀ vm₁, s.WarmedH vm₁ → Pre ⟨T.setVm vm₁, locs, cells, slots⟩ argsL.toArray) :
    (∃ (v : Option Value) (vm₁ : Vm) (B : Pt), s.WarmedH vm₁ ∧ Stand p l e R s m args below meth c B.U B.locs B.cells B.slots ∧ Post ⟨T.setVm vm₁, locs, cells, slots⟩ argsL.toArray v B ∧
      ∀ target, Steps p.tables e below (B.U.setTop { g with pc := g.pc + 3, stack := v.toList ++ rest }) target → Steps p.tables e below (T.setTop g) target) ∨
    (∃ (q : Addr) (vm₁ : Vm) (B : Pt), s.WarmedH vm₁ ∧ Stand p l e R s m args below meth c B.U B.locs B.cells B.slots ∧ PostX ⟨T.setVm vm₁, locs, cells, slots⟩ argsL.toArray q B ∧
      Steps p.tables e below (T.setTop g) ((B.U.setTop { g with stack := rest }).pushFrame (.throwing q))) := by
  obtain ⟨mk, hnamed⟩ := Cond.code_named hcode
  obtain ⟨methM, cM, hmethM, -, -, -, -, -, -, hsigM⟩ := Cond.code_spec hnamed hcode
  have hstatic : methM.isStatic = true := Cond.static_spec hnamed hmethM hstat
  obtain ⟨kP, hkP, -⟩ := className_of_methodNamed hnamed
  have hinitP : kP.init = .initialized := Cond.initialized_spec (findClass_of_methodNamed hnamed) hkP hinit
  obtain ⟨vm₁, X₁, hstep₁⟩ := X.invokestatic hexec hown hlink hnamed hmethM hstatic hkP hinitP hy (g := g) hg (argsL := argsL) (rest := rest) (hlen _ hsigM) hstack hdg
  rcases hK m meth c ⟨T.setVm vm₁, locs, cells, slots⟩ { g with stack := rest } (.invokestatic index) mk argsL.toArray X₁ hg hsize hdg hW (X₁.named hnamed) (hpre vm₁ X₁.warmed) with ⟨v, B, X', hpost, hsteps⟩ | ⟨q, B, X', hpost, hsteps⟩
  · exact Or.inl ⟨v, vm₁, B, X₁.warmed, X', hpost, fun target h => hstep₁ _ fun acts => by rw [doInvoke_state]; exact hsteps.trans h⟩
  · exact Or.inr ⟨q, vm₁, B, X₁.warmed, X', hpost, hstep₁ _ fun acts => by rw [doInvoke_state]; exact hsteps⟩
end Calls
theorem vx_cls {s : State} {T : State} {vm₁ : Vm} {E : String} {k : ClassId} (hW : s.WarmedH vm₁) (h : (T.setVm vm₁).vm.findClass E = some k) : s.vm.findClass E = some k := by
  have h1 : vm₁.findClass E = some k := h
  rw [hW.alike.findClass] at h1
  exact h1
/-- the method's frame g, with q thrown over it -/
def vx_W (p : Program) (l : Launch) (e : Env) (R : Room) (s : State) (m : MethodId) (args : Array Value) (below : List Frame) (meth : Method) (c : Code) (H : Heap) (locs : List Loc) (cells slots : Nat) (Q : State → Prop) (g : JFrame) (q : Addr) : Prop :=
  ∀ T : State, T.heap = H → Stand p l e R s m args below meth c T locs cells slots → ∃ t, Steps p.tables e below ((T.setTop g).pushFrame (.throwing q)) t ∧ Q t
def vx_Run (p : Program) (l : Launch) (e : Env) (R : Room) (s : State) (m : MethodId) (args : Array Value) (below : List Frame) (meth : Method) (c : Code) (H : Heap) (locs : List Loc) (cells slots mc ms : Nat) (g : JFrame) (rest : List Value) (Qa : State → Outcome → State → Prop) (XC : String → State → State → Prop) (free : Addr → Prop) : Prop :=
  ∀ T : State, T.heap = H → Stand p l e R s m args below meth c T locs cells slots →
    (∃ (v : Option Value) (st₀ t T' : State) (L : List Loc), st₀.heap = H ∧ Stand p l e R s m args below meth c T' (locs ++ L) (cells + mc) (slots + ms) ∧ (∀ q ∈ L, free q.base) ∧ T'.heap = t.heap ∧ T'.vm = t.vm ∧ Qa st₀ (.returned v) t ∧
      Goes p e below T g T' { g with pc := g.pc + 3, stack := v.toList ++ rest }) ∨
    (∃ (q : Addr) (st₀ t T' : State) (L : List Loc) (E : String) (ce : Cell), st₀.heap = H ∧ Stand p l e R s m args below meth c T' (locs ++ L) (cells + mc) (slots + ms) ∧ (∀ z ∈ L, free z.base) ∧ T'.heap = t.heap ∧ T'.vm = t.vm ∧ XC E st₀ t ∧ t.heap[q]? = some ce ∧ ce.vm = .none ∧ s.vm.findClass E = some ce.cls ∧
      Steps p.tables e below (T.setTop g) ((T'.setTop { g with stack := rest }).pushFrame (.throwing q)))
def vx_X {S : Type} (px : S → Prop) (B : String → S → State → Prop) (A : Nat → Prop) : String → State → State → Prop := fun E st t => ∃ u : S, px u ∧ B E u t ∧ va_F A st t
section Runs
variable {p : Program} {l : Launch} {e : Env} {R : Room} {s : State} {m : MethodId} {args : Array Value} {below : List Frame} {meth : Method} {c : Code} {H : Heap} {locs : List Loc} {cells slots : Nat}
variable {y : MethodName} {bytes cc : ByteArray} {maxL nL mc ms n index : Nat} {ret : Option FieldType} {ws : List Cond} {rm : Room} {Pc : Array Value → State → Prop} {Qc : Array Value → State → Outcome → State → Prop} {XC : String → State → State → Prop} {free : Addr → Prop} {Ts : List Cond} {own C : String} {b : Addr} {As rest : List Value} {g : JFrame}
theorem vx_callBack (cb : CallB R s args own index y bytes maxL ret ws rm mc ms n) (hM : vx_Met l y ws rm Pc Qc XC mc ms free) (hbl : FrameBlind Pc) : vx_Back l R p e below s args y 3 8 (PreOf R mc ms Pc) (PostOf Qc mc ms free) (vx_Post XC mc ms free) := by
  obtain ⟨hrc, hrs, hfr, hlo, hws, hcw, -, hini, -⟩ := cb
  exact vx_back (bytes := bytes) (maxL := maxL) (ret := ret) hM hbl hrc hrs hfr hlo hws hcw (fun a' U hW => word_at hW (Or.inl (by first | rfl | simp [Cond.onTables, Cond.keeps, Cond.steady])) hini)
theorem vx_runV (S : CallFix p m c cc nL s args Ts own) (hM : vx_Met l y ws rm Pc Qc XC mc ms free) (cw : CallW R s args own C index y bytes maxL ret ws rm mc ms n) (hp : PreV s H C b Pc As)
    (hg : g.method = m) (hn : As.length = n) (hsize : g.locals.size = nL) (hstack : g.stack = As.reverse ++ .ref b :: rest) (hW : 2 * g.monitorRoom + (rest.map fun v => v.category).sum ≤ 8) (hdg : decode cc g.pc = .ok (.invokevirtual index, 3)) (hf : cells + mc ≤ R.cells ∧ slots + ms ≤ R.slots) :
    vx_Run p l e R s m args below meth c H locs cells slots mc ms g rest (Qc (Value.ref b :: As).toArray) XC free := by
  have hK : vx_Back l R p e below s args y 3 8 (PreOf R mc ms Pc) (PostOf Qc mc ms free) (vx_Post XC mc ms free) := vx_callBack cw.1 hM hp.1
  obtain ⟨⟨-, -, -, -, -, -, hcode, -, hy, hlen, hl⟩, hin, hse⟩ := cw
  obtain ⟨hx, hb, hml, ho, -⟩ := S
  obtain ⟨-, ⟨cellB, hcB, hoB, hclB⟩, hPc⟩ := hp
  intro T hT X
  rcases vx_callV X hx (C := C) (bytes := bytes) (maxL := maxL) (ret := ret) ho hl hin hse hcode hy hK (by rw [hT]; exact hcB) hoB hclB hg (hsize.trans hml.symm) (argsL := As) (rest := rest) (fun sig h => hn.trans (hlen sig h)) hstack hW (by rw [hb]; exact hdg)
    (fun vm₁ hW₁ => ⟨hf.1, hf.2, hPc (T.setVm vm₁) hT hW₁⟩) with ⟨v, vm₁, ⟨U', l2, c2, s2⟩, hW₁, X', ⟨g', mk, t, L, e1, e2, hq, h1, hL, h2, h3⟩, st⟩ | ⟨q, vm₁, ⟨U', l2, c2, s2⟩, hW₁, X', ⟨g', mk, t, L, E, ce, e1, e2, hq, hce, hcv, hcl, h1, hL, h2, h3⟩, st⟩
  · dsimp only [Pt.U, Pt.locs, Pt.cells, Pt.slots] at X' e1 e2 h1 h2 h3 st
    subst h1; subst h2; subst h3
    exact Or.inl ⟨v, (T.setVm vm₁).calling g' mk (Value.ref b :: As).toArray, t, U', L, hT, X', hL, e1, e2, hq, st⟩
  · dsimp only [Pt.U, Pt.locs, Pt.cells, Pt.slots] at X' e1 e2 h1 h2 h3 st hcl
    subst h1; subst h2; subst h3
    exact Or.inr ⟨q, (T.setVm vm₁).calling g' mk (Value.ref b :: As).toArray, t, U', L, E, ce, hT, X', hL, e1, e2, hq, hce, hcv, vx_cls hW₁ hcl, st⟩
theorem vx_runS (S : CallFix p m c cc nL s args Ts own) (hM : vx_Met l y ws rm Pc Qc XC mc ms free) (cw : CallB R s args own index y bytes maxL ret ws rm mc ms n ∧ (Cond.static y).before args s = true) (hp : PreS s H Pc As)
    (hg : g.method = m) (hn : As.length = n) (hsize : g.locals.size = nL) (hstack : g.stack = As.reverse ++ rest) (hW : 2 * g.monitorRoom + (rest.map fun v => v.category).sum ≤ 8) (hdg : decode cc g.pc = .ok (.invokestatic index, 3)) (hf : cells + mc ≤ R.cells ∧ slots + ms ≤ R.slots) :
    vx_Run p l e R s m args below meth c H locs cells slots mc ms g rest (Qc As.toArray) XC free := by
  have hK : vx_Back l R p e below s args y 3 8 (PreOf R mc ms Pc) (PostOf Qc mc ms free) (vx_Post XC mc ms free) := vx_callBack cw.1 hM hp.1
  obtain ⟨⟨-, -, -, -, -, -, hcode, hini, hy, hlen, hl⟩, hstt⟩ := cw
  obtain ⟨hx, hb, hml, ho, -⟩ := S
  intro T hT X
  rcases vx_callS X hx (bytes := bytes) (maxL := maxL) (ret := ret) ho hl hstt hini hcode hy hK hg (hsize.trans hml.symm) (argsL := As) (rest := rest) (fun sig h => hn.trans (hlen sig h)) hstack hW (by rw [hb]; exact hdg)
    (fun vm₁ hW₁ => ⟨hf.1, hf.2, hp.2 (T.setVm vm₁) hT hW₁⟩) with ⟨v, vm₁, ⟨U', l2, c2, s2⟩, hW₁, X', ⟨g', mk, t, L, e1, e2, hq, h1, hL, h2, h3⟩, st⟩ | ⟨q, vm₁, ⟨U', l2, c2, s2⟩, hW₁, X', ⟨g', mk, t, L, E, ce, e1, e2, hq, hce, hcv, hcl, h1, hL, h2, h3⟩, st⟩
  · dsimp only [Pt.U, Pt.locs, Pt.cells, Pt.slots] at X' e1 e2 h1 h2 h3 st
    subst h1; subst h2; subst h3
    exact Or.inl ⟨v, (T.setVm vm₁).calling g' mk As.toArray, t, U', L, hT, X', hL, e1, e2, hq, st⟩
  · dsimp only [Pt.U, Pt.locs, Pt.cells, Pt.slots] at X' e1 e2 h1 h2 h3 st hcl
    subst h1; subst h2; subst h3
    exact Or.inr ⟨q, (T.setVm vm₁).calling g' mk As.toArray, t, U', L, E, ce, hT, X', hL, e1, e2, hq, hce, hcv, vx_cls hW₁ hcl, st⟩
end Runs
section Rows
variable {p : Program} {l : Launch} {e : Env} {R : Room} {s : State} {m : MethodId} {args : Array Value} {below : List Frame} {meth : Method} {c : Code} {H : Heap} {locs : List Loc} {cells slots : Nat} {Q : State → Prop}
variable {mc ms : Nat} {free : Addr → Prop} {A0 A1 : Nat → Prop} {H0 : Heap} {a : Array Value} {pc : Nat} {ls : Array Slot} {st0 rest : List Value}
theorem vx_keep {st₀ t T' : State} {L : List Loc} (h0 : st₀.heap = H) (e1 : T'.heap = t.heap) (hS : va_S A0 H0 H locs) (hA : ∀ q, q < H.size → A1 q → A0 q) (hf : ∀ q, free q → A0 q) (hL : ∀ q ∈ L, free q.base) (hF : va_F A1 st₀ t) :
    H.size ≤ T'.heap.size ∧ (∀ q : Nat, q < H.size → ¬ A1 q → T'.heap[q]? = H[q]?) ∧ va_S A0 H0 T'.heap (locs ++ L) := by
  obtain ⟨hz, hk⟩ := hF
  rw [h0] at hz hk
  exact ⟨by rw [e1]; exact hz, fun q h1 h2 => by rw [e1]; exact hk q h1 h2,
    ⟨Nat.le_trans hS.1 (by rw [e1]; exact hz), fun q h1 h2 => by rw [e1, hk q (Nat.lt_of_lt_of_le h1 hS.1) (fun z => h2 (hA q (Nat.lt_of_lt_of_le h1 hS.1) z))]; exact hS.2.1 q h1 h2, fun q hq => by
      rcases List.mem_append.mp hq with h | h
      · exact hS.2.2 q h
      · exact hf _ (hL q h)⟩⟩
theorem vx_calli {S SX : Type} {post : Int32 → S → Prop} {px : SX → Prop} {B : S → State → Prop} {BX : String → SX → State → Prop} {AX : Nat → Prop} (hr : vx_Run p l e R s m args below meth c H locs cells slots mc ms (F0 m pc ls st0) rest (va_Qi post B A1 a) (vx_X px BX AX) free) (hS : va_S A0 H0 H locs) (hA : ∀ q, q < H.size → A1 q → A0 q) (hf : ∀ q, free q → A0 q) (hAX : ∀ q, q < H.size → AX q → A0 q)
    (kx : ∀ (E : String) (ce : Cell) (q9 : Addr) (u : SX) (t : State) (H1 : Heap) (locs1 : List Loc), t.heap = H1 → s.vm.Alike t.vm → px u → BX E u t → H.size ≤ H1.size → (∀ q : Nat, q < H.size → ¬ AX q → H1[q]? = H[q]?) → va_S A0 H0 H1 locs1 → H1[q9]? = some ce → ce.vm = .none → s.vm.findClass E = some ce.cls → vx_W p l e R s m args below meth c H1 locs1 (cells + mc) (slots + ms) Q (F0 m pc ls rest) q9)
    (kk : ∀ (r : Int32) (u : S) (t : State) (H1 : Heap) (locs1 : List Loc), t.heap = H1 → s.vm.Alike t.vm → post r u → B u t → H.size ≤ H1.size → (∀ q : Nat, q < H.size → ¬ A1 q → H1[q]? = H[q]?) → va_S A0 H0 H1 locs1 → W p l e R s m args below meth c H1 locs1 (cells + mc) (slots + ms) Q (F0 m (pc + 3) ls (.int r :: rest))) : W p l e R s m args below meth c H locs cells slots Q (F0 m pc ls st0) := by
  intro T hT X
  rcases hr T hT X with ⟨v, st₀, t, T', L, h0, X', hL, e1, e2, ⟨⟨r, u, hv, hp, hb⟩, hF⟩, st⟩ | ⟨q, st₀, t, T', L, E, ce, h0, X', hL, e1, e2, ⟨u, hp, hb, hF⟩, hce, hcv, hcl, st⟩
  · cases hv
    obtain ⟨k1, k2, k3⟩ := vx_keep h0 e1 hS hA hf hL hF
    obtain ⟨t2, a1, b1⟩ := kk r u t T'.heap (locs ++ L) e1.symm (by rw [← e2]; exact X'.warmed.alike) hp hb k1 k2 k3 T' rfl X'
    exact ⟨t2, st t2 a1, b1⟩
  · obtain ⟨k1, k2, k3⟩ := vx_keep h0 e1 hS hAX hf hL hF
    obtain ⟨t2, a1, b1⟩ := kx E ce q u t T'.heap (locs ++ L) e1.symm (by rw [← e2]; exact X'.warmed.alike) hp hb k1 k2 k3 (by rw [e1]; exact hce) hcv hcl T' rfl X'
    exact ⟨t2, st.trans a1, b1⟩
theorem vx_calll {S SX : Type} {post : Int64 → S → Prop} {px : SX → Prop} {B : S → State → Prop} {BX : String → SX → State → Prop} {AX : Nat → Prop} (hr : vx_Run p l e R s m args below meth c H locs cells slots mc ms (F0 m pc ls st0) rest (va_Ql post B A1 a) (vx_X px BX AX) free) (hS : va_S A0 H0 H locs) (hA : ∀ q, q < H.size → A1 q → A0 q) (hf : ∀ q, free q → A0 q) (hAX : ∀ q, q < H.size → AX q → A0 q)
    (kx : ∀ (E : String) (ce : Cell) (q9 : Addr) (u : SX) (t : State) (H1 : Heap) (locs1 : List Loc), t.heap = H1 → s.vm.Alike t.vm → px u → BX E u t → H.size ≤ H1.size → (∀ q : Nat, q < H.size → ¬ AX q → H1[q]? = H[q]?) → va_S A0 H0 H1 locs1 → H1[q9]? = some ce → ce.vm = .none → s.vm.findClass E = some ce.cls → vx_W p l e R s m args below meth c H1 locs1 (cells + mc) (slots + ms) Q (F0 m pc ls rest) q9)
    (kk : ∀ (r : Int64) (u : S) (t : State) (H1 : Heap) (locs1 : List Loc), t.heap = H1 → s.vm.Alike t.vm → post r u → B u t → H.size ≤ H1.size → (∀ q : Nat, q < H.size → ¬ A1 q → H1[q]? = H[q]?) → va_S A0 H0 H1 locs1 → W p l e R s m args below meth c H1 locs1 (cells + mc) (slots + ms) Q (F0 m (pc + 3) ls (.long r :: rest))) : W p l e R s m args below meth c H locs cells slots Q (F0 m pc ls st0) := by
  intro T hT X
  rcases hr T hT X with ⟨v, st₀, t, T', L, h0, X', hL, e1, e2, ⟨⟨r, u, hv, hp, hb⟩, hF⟩, st⟩ | ⟨q, st₀, t, T', L, E, ce, h0, X', hL, e1, e2, ⟨u, hp, hb, hF⟩, hce, hcv, hcl, st⟩
  · cases hv
    obtain ⟨k1, k2, k3⟩ := vx_keep h0 e1 hS hA hf hL hF
    obtain ⟨t2, a1, b1⟩ := kk r u t T'.heap (locs ++ L) e1.symm (by rw [← e2]; exact X'.warmed.alike) hp hb k1 k2 k3 T' rfl X'
    exact ⟨t2, st t2 a1, b1⟩
  · obtain ⟨k1, k2, k3⟩ := vx_keep h0 e1 hS hAX hf hL hF
    obtain ⟨t2, a1, b1⟩ := kx E ce q u t T'.heap (locs ++ L) e1.symm (by rw [← e2]; exact X'.warmed.alike) hp hb k1 k2 k3 (by rw [e1]; exact hce) hcv hcl T' rfl X'
    exact ⟨t2, st.trans a1, b1⟩
theorem vx_callf {S SX : Type} {post : UInt32 → S → Prop} {px : SX → Prop} {B : S → State → Prop} {BX : String → SX → State → Prop} {AX : Nat → Prop} (hr : vx_Run p l e R s m args below meth c H locs cells slots mc ms (F0 m pc ls st0) rest (va_Qf post B A1 a) (vx_X px BX AX) free) (hS : va_S A0 H0 H locs) (hA : ∀ q, q < H.size → A1 q → A0 q) (hf : ∀ q, free q → A0 q) (hAX : ∀ q, q < H.size → AX q → A0 q)
    (kx : ∀ (E : String) (ce : Cell) (q9 : Addr) (u : SX) (t : State) (H1 : Heap) (locs1 : List Loc), t.heap = H1 → s.vm.Alike t.vm → px u → BX E u t → H.size ≤ H1.size → (∀ q : Nat, q < H.size → ¬ AX q → H1[q]? = H[q]?) → va_S A0 H0 H1 locs1 → H1[q9]? = some ce → ce.vm = .none → s.vm.findClass E = some ce.cls → vx_W p l e R s m args below meth c H1 locs1 (cells + mc) (slots + ms) Q (F0 m pc ls rest) q9)
    (kk : ∀ (r : UInt32) (u : S) (t : State) (H1 : Heap) (locs1 : List Loc), t.heap = H1 → s.vm.Alike t.vm → post r u → B u t → H.size ≤ H1.size → (∀ q : Nat, q < H.size → ¬ A1 q → H1[q]? = H[q]?) → va_S A0 H0 H1 locs1 → W p l e R s m args below meth c H1 locs1 (cells + mc) (slots + ms) Q (F0 m (pc + 3) ls (.float r :: rest))) : W p l e R s m args below meth c H locs cells slots Q (F0 m pc ls st0) := by
  intro T hT X
  rcases hr T hT X with ⟨v, st₀, t, T', L, h0, X', hL, e1, e2, ⟨⟨r, u, hv, hp, hb⟩, hF⟩, st⟩ | ⟨q, st₀, t, T', L, E, ce, h0, X', hL, e1, e2, ⟨u, hp, hb, hF⟩, hce, hcv, hcl, st⟩
  · cases hv
    obtain ⟨k1, k2, k3⟩ := vx_keep h0 e1 hS hA hf hL hF
    obtain ⟨t2, a1, b1⟩ := kk r u t T'.heap (locs ++ L) e1.symm (by rw [← e2]; exact X'.warmed.alike) hp hb k1 k2 k3 T' rfl X'
    exact ⟨t2, st t2 a1, b1⟩
  · obtain ⟨k1, k2, k3⟩ := vx_keep h0 e1 hS hAX hf hL hF
    obtain ⟨t2, a1, b1⟩ := kx E ce q u t T'.heap (locs ++ L) e1.symm (by rw [← e2]; exact X'.warmed.alike) hp hb k1 k2 k3 (by rw [e1]; exact hce) hcv hcl T' rfl X'
    exact ⟨t2, st.trans a1, b1⟩
theorem vx_calld {S SX : Type} {post : UInt64 → S → Prop} {px : SX → Prop} {B : S → State → Prop} {BX : String → SX → State → Prop} {AX : Nat → Prop} (hr : vx_Run p l e R s m args below meth c H locs cells slots mc ms (F0 m pc ls st0) rest (va_Qd post B A1 a) (vx_X px BX AX) free) (hS : va_S A0 H0 H locs) (hA : ∀ q, q < H.size → A1 q → A0 q) (hf : ∀ q, free q → A0 q) (hAX : ∀ q, q < H.size → AX q → A0 q)
    (kx : ∀ (E : String) (ce : Cell) (q9 : Addr) (u : SX) (t : State) (H1 : Heap) (locs1 : List Loc), t.heap = H1 → s.vm.Alike t.vm → px u → BX E u t → H.size ≤ H1.size → (∀ q : Nat, q < H.size → ¬ AX q → H1[q]? = H[q]?) → va_S A0 H0 H1 locs1 → H1[q9]? = some ce → ce.vm = .none → s.vm.findClass E = some ce.cls → vx_W p l e R s m args below meth c H1 locs1 (cells + mc) (slots + ms) Q (F0 m pc ls rest) q9)
    (kk : ∀ (r : UInt64) (u : S) (t : State) (H1 : Heap) (locs1 : List Loc), t.heap = H1 → s.vm.Alike t.vm → post r u → B u t → H.size ≤ H1.size → (∀ q : Nat, q < H.size → ¬ A1 q → H1[q]? = H[q]?) → va_S A0 H0 H1 locs1 → W p l e R s m args below meth c H1 locs1 (cells + mc) (slots + ms) Q (F0 m (pc + 3) ls (.double r :: rest))) : W p l e R s m args below meth c H locs cells slots Q (F0 m pc ls st0) := by
  intro T hT X
  rcases hr T hT X with ⟨v, st₀, t, T', L, h0, X', hL, e1, e2, ⟨⟨r, u, hv, hp, hb⟩, hF⟩, st⟩ | ⟨q, st₀, t, T', L, E, ce, h0, X', hL, e1, e2, ⟨u, hp, hb, hF⟩, hce, hcv, hcl, st⟩
  · cases hv
    obtain ⟨k1, k2, k3⟩ := vx_keep h0 e1 hS hA hf hL hF
    obtain ⟨t2, a1, b1⟩ := kk r u t T'.heap (locs ++ L) e1.symm (by rw [← e2]; exact X'.warmed.alike) hp hb k1 k2 k3 T' rfl X'
    exact ⟨t2, st t2 a1, b1⟩
  · obtain ⟨k1, k2, k3⟩ := vx_keep h0 e1 hS hAX hf hL hF
    obtain ⟨t2, a1, b1⟩ := kx E ce q u t T'.heap (locs ++ L) e1.symm (by rw [← e2]; exact X'.warmed.alike) hp hb k1 k2 k3 (by rw [e1]; exact hce) hcv hcl T' rfl X'
    exact ⟨t2, st.trans a1, b1⟩
theorem vx_callv {S SX : Type} {post : S → Prop} {px : SX → Prop} {B : S → State → Prop} {BX : String → SX → State → Prop} {AX : Nat → Prop} (hr : vx_Run p l e R s m args below meth c H locs cells slots mc ms (F0 m pc ls st0) rest (va_Qv post B A1 a) (vx_X px BX AX) free) (hS : va_S A0 H0 H locs) (hA : ∀ q, q < H.size → A1 q → A0 q) (hf : ∀ q, free q → A0 q) (hAX : ∀ q, q < H.size → AX q → A0 q)
    (kx : ∀ (E : String) (ce : Cell) (q9 : Addr) (u : SX) (t : State) (H1 : Heap) (locs1 : List Loc), t.heap = H1 → s.vm.Alike t.vm → px u → BX E u t → H.size ≤ H1.size → (∀ q : Nat, q < H.size → ¬ AX q → H1[q]? = H[q]?) → va_S A0 H0 H1 locs1 → H1[q9]? = some ce → ce.vm = .none → s.vm.findClass E = some ce.cls → vx_W p l e R s m args below meth c H1 locs1 (cells + mc) (slots + ms) Q (F0 m pc ls rest) q9)
    (kk : ∀ (u : S) (t : State) (H1 : Heap) (locs1 : List Loc), t.heap = H1 → s.vm.Alike t.vm → post u → B u t → H.size ≤ H1.size → (∀ q : Nat, q < H.size → ¬ A1 q → H1[q]? = H[q]?) → va_S A0 H0 H1 locs1 → W p l e R s m args below meth c H1 locs1 (cells + mc) (slots + ms) Q (F0 m (pc + 3) ls (rest))) : W p l e R s m args below meth c H locs cells slots Q (F0 m pc ls st0) := by
  intro T hT X
  rcases hr T hT X with ⟨v, st₀, t, T', L, h0, X', hL, e1, e2, ⟨⟨u, hv, hp, hb⟩, hF⟩, st⟩ | ⟨q, st₀, t, T', L, E, ce, h0, X', hL, e1, e2, ⟨u, hp, hb, hF⟩, hce, hcv, hcl, st⟩
  · cases hv
    obtain ⟨k1, k2, k3⟩ := vx_keep h0 e1 hS hA hf hL hF
    obtain ⟨t2, a1, b1⟩ := kk u t T'.heap (locs ++ L) e1.symm (by rw [← e2]; exact X'.warmed.alike) hp hb k1 k2 k3 T' rfl X'
    exact ⟨t2, st t2 a1, b1⟩
  · obtain ⟨k1, k2, k3⟩ := vx_keep h0 e1 hS hAX hf hL hF
    obtain ⟨t2, a1, b1⟩ := kx E ce q u t T'.heap (locs ++ L) e1.symm (by rw [← e2]; exact X'.warmed.alike) hp hb k1 k2 k3 (by rw [e1]; exact hce) hcv hcl T' rfl X'
    exact ⟨t2, st.trans a1, b1⟩
/-- caught by the row x of this method's table; the rows ahead don't take it -/
theorem vx_catch {own name : String} {E : String} {ce : Cell} {q : Addr} (hown : s.vm.findClass own = some m.cls) (pre : List ExceptionTableEntry) (x : ExceptionTableEntry) (suf : List ExceptionTableEntry) (hsplit : c.exceptionTable.toList = pre ++ x :: suf)
    (hpass : ∀ z ∈ pre, covers z pc = false ∨ (z.catchType ≠ 0 ∧ ∃ nm : String, (Cond.classLink own z.catchType nm).before args s = true ∧ va_Nc E nm s)) (hx : covers x pc = true) (h0 : x.catchType ≠ 0)
    (hlink : (Cond.classLink own x.catchType name).before args s = true) (hcast : (Cond.castable E name).before args s = true) (hcell : H[q]? = some ce) (hv : ce.vm = .none) (hcl : s.vm.findClass E = some ce.cls)
    (kk : W p l e R s m args below meth c H locs cells slots Q (F0 m x.handlerPc ls [.ref q])) : vx_W p l e R s m args below meth c H locs cells slots Q (F0 m pc ls rest) q := by
  intro T hT X
  have hpl : e.platform.magicAccessors = ({} : Platform).magicAccessors := by rw [X.admits.platform]
  obtain ⟨c3, c4, hc3, hc4, hasg⟩ := Cond.castable_spec hcast
  cases Option.some.inj (hc3.symm.trans hcl)
  obtain ⟨c5, hc5, hcl5⟩ := Cond.classLink_spec hown hlink e.platform hpl
  cases Option.some.inj (hc4.symm.trans hc5)
  obtain ⟨vm', X', st⟩ := X.thenCaughtThrough q (g := F0 m pc ls rest) rfl (Steps.refl _) (by rw [hT]; exact hcell) (by rw [hv]; rfl) (by obtain ⟨k9, h9, -⟩ := Vm.findClass_spec hcl; exact ⟨k9, h9⟩) pre x suf hsplit
    (fun z hz => by
      rcases hpass z hz with h | ⟨hz0, nm, hl1, hn1⟩
      · exact Or.inl h
      · obtain ⟨c6, hc6, hcl6⟩ := Cond.classLink_spec hown hl1 e.platform hpl
        obtain ⟨a8, b8, h1, h2, h3⟩ := hn1
        cases Option.some.inj (h1.symm.trans hcl)
        cases Option.some.inj (h2.symm.trans hc6)
        exact Or.inr ⟨hz0, _, hcl6, h3⟩) hx (Or.inr ⟨h0, c4, hcl5, hasg⟩)
  obtain ⟨t, a1, b1⟩ := kk (T.setVm vm') hT X'
  exact ⟨t, st.trans a1, b1⟩
end Rows
section Ends
variable {p : Program} {l : Launch} {e : Env} {R : Room} {s : State} {m : MethodId} {args : Array Value} {below : List Frame} {meth : Method} {c : Code} {H : Heap} {locs : List Loc} {cells slots : Nat} {Q : State → Prop}
variable {mc ms : Nat} {free : Addr → Prop} {A0 A1 : Nat → Prop} {H0 : Heap} {a : Array Value} {ls : Array Slot} {st0 rest : List Value}
variable {Qc : Array Value → State → Outcome → State → Prop} {XC : String → State → State → Prop}
/-- what a body that may throw owes at its end -/
def vx_MQ (below : List Frame) (Qc : Array Value → State → Outcome → State → Prop) (XC : String → State → State → Prop) (a : Array Value) (s : State) (mc ms : Nat) (free : Addr → Prop) : State → Prop := fun t =>
  ∃ o, t.status = .running ∧ Ended t below o ∧ vx_Q Qc XC mc ms free a s o t
theorem vx_ret {g : JFrame} {mc ms : Nat} (k : W p l e R s m args below meth c H locs cells slots (MQ below Qc args s mc ms free) g) : W p l e R s m args below meth c H locs cells slots (vx_MQ below Qc XC args s mc ms free) g := by
  intro T hT X
  obtain ⟨t, a1, o, b1, b2, b3, b4⟩ := k T hT X
  exact ⟨t, a1, o, b1, b2, Or.inl ⟨b3, b4⟩⟩
/-- not caught here: it goes on to the caller -/
theorem vx_widen {g : JFrame} {q : Addr} {k n : Nat} (h1 : cells ≤ k) (h2 : slots ≤ n) (kk : vx_W p l e R s m args below meth c H locs k n Q g q) : vx_W p l e R s m args below meth c H locs cells slots Q g q := fun T hT X => kk T hT (stand_widen X h1 h2)
theorem vx_out {pc : Nat} {E : String} {ce : Cell} {q : Addr} {mc ms : Nat} (hout : ∀ x ∈ c.exceptionTable.toList, covers x pc = false) (hlocks : meth.locks = false) (hcell : H[q]? = some ce) (hv : ce.vm = .none) (hcl : s.vm.findClass E = some ce.cls)
    (hx : ∀ t : State, t.heap = H → s.vm.Alike t.vm → XC E s t) (hf : ∀ z ∈ locs, free z.base) (hc : cells ≤ mc) (hs : slots ≤ ms) :
    vx_W p l e R s m args below meth c H locs cells slots (vx_MQ below Qc XC args s mc ms free) (F0 m pc ls rest) q := by
  intro T hT X
  obtain ⟨st1, hrun, hend, hW, hsm⟩ := X.leaveThrown q (g := F0 m pc ls rest) rfl rfl rfl hout hlocks
  have hcell9 : (T.setFrames (.throwing q :: below)).heap[q]? = some ce := by
    show T.heap[q]? = some ce
    rw [hT]; exact hcell
  exact ⟨_, st1, .threw q, hrun, hend, Or.inr ⟨q, rfl, E, ce, locs, hx _ hT hW.alike, hcell9, hv, hcl, hW, hsm.mono hc hs, hf⟩⟩
theorem vx_frame {U : State} {k n : Nat} (h : s.sameButNew ({ U with vm := s.vm } : State) locs k n) : s.heap.size ≤ U.heap.size ∧ ∀ q : Nat, q < s.heap.size → (∀ z ∈ locs, z.base ≠ q) → U.heap[q]? = s.heap[q]? := by
  obtain ⟨-, h2, -, -, -, h6⟩ := h
  refine ⟨h2, fun q hq hz => ?_⟩
  obtain ⟨c9, e1, e2, e3, e4⟩ := h6 q _ (Array.getElem?_eq_getElem hq)
  have hs : c9.slots = (s.heap[q]).slots := Array.ext_getElem? fun i => e4 i fun hm => hz _ hm rfl
  have h9 : c9 = s.heap[q] := by
    rw [hs] at e2
    exact e2
  have e5 : U.heap[q]? = some c9 := e1
  rw [e5, h9, Array.getElem?_eq_getElem hq]
/-- the words of a throw but the four that speak of the heap -/
def vx_no (w : Cond) : Bool := decide (w ≠ .isRef (.static Bundle.tN "UNASSIGNED_STACK" Bundle.steD)) && decide (w ≠ .isRef (.static Bundle.tN "SUPPRESSED_SENTINEL" Bundle.listD)) && decide (w ≠ .laysStatic Bundle.tN "UNASSIGNED_STACK" Bundle.steD) && decide (w ≠ .laysStatic Bundle.tN "SUPPRESSED_SENTINEL" Bundle.listD)
def vx_at0 (own : String) (ic : Nat) (X : String) (names : List String) : List Cond := (Bundle.ownAtoms0 own ic X names).filter vx_no
def vx_atS (own : String) (ic : Nat) (X : String) (names : List String) : List Cond := (Bundle.ownAtoms own ic X names).filter vx_no
/-- a word that the tables alone decide, or a good one -/
def vx_ot (w : Cond) : Bool := w.onTables || goodWord w
theorem vx_ot_at {args a' : Array Value} {s U : State} {w : Cond} (hW : s.WarmedH U.vm) (hvm : s.vm = U.vm) (hg : vx_ot w = true) (h : w.before args s = true) : w.before a' U = true := by
  simp only [vx_ot, Bool.or_eq_true] at hg
  rcases hg with hg | hg
  · exact va_tabs hg hvm h
  · exact word_at hW (good_of_word hg) h
/-- a list's words: the good ones out of the method's own list, the others by premises of their own -/
theorem vx_hat {args : Array Value} {s : State} {L B : List Cond} (h1 : ∀ w ∈ L.filter goodWord, w.before args s = true) (h2 : ∀ w ∈ L.filter (fun w => !goodWord w), w ∈ B) (h3 : ∀ w ∈ B, w.before args s = true) : ∀ w ∈ L, w.before args s = true := by
  intro w hw
  by_cases g : goodWord w = true
  · exact h1 w (List.mem_filter.mpr ⟨hw, g⟩)
  · refine h3 w (h2 w (List.mem_filter.mpr ⟨hw, ?_⟩))
    show (!goodWord w) = true
    cases hgw : goodWord w
    · rfl
    · exact absurd hgw g
theorem vx_c {args : Array Value} {s : State} {w : Cond} {B : List Cond} (h : w.before args s = true) (t : ∀ w ∈ B, w.before args s = true) : ∀ w' ∈ w :: B, w'.before args s = true := fun w' h' => (List.mem_cons.mp h').elim (fun e => by rw [e]; exact h) (t w')
theorem vx_n {args : Array Value} {s : State} : ∀ w ∈ ([] : List Cond), w.before args s = true := fun _ h => nomatch h
theorem vx_own {args : Array Value} {s : State} {L : List Cond} (h1 : ∀ w ∈ L.filter vx_no, w.before args s = true)
    (hU : (Cond.isRef (.static Bundle.tN "UNASSIGNED_STACK" Bundle.steD)).before args s = true) (hN : (Cond.isRef (.static Bundle.tN "SUPPRESSED_SENTINEL" Bundle.listD)).before args s = true)
    (lU : (Cond.laysStatic Bundle.tN "UNASSIGNED_STACK" Bundle.steD).before args s = true) (lN : (Cond.laysStatic Bundle.tN "SUPPRESSED_SENTINEL" Bundle.listD).before args s = true) : ∀ w ∈ L, w.before args s = true := by
  intro w hw
  by_cases e1 : w = .isRef (.static Bundle.tN "UNASSIGNED_STACK" Bundle.steD)
  · rw [e1]; exact hU
  · by_cases e2 : w = .isRef (.static Bundle.tN "SUPPRESSED_SENTINEL" Bundle.listD)
    · rw [e2]; exact hN
    · by_cases e3 : w = .laysStatic Bundle.tN "UNASSIGNED_STACK" Bundle.steD
      · rw [e3]; exact lU
      · by_cases e4 : w = .laysStatic Bundle.tN "SUPPRESSED_SENTINEL" Bundle.listD
        · rw [e4]; exact lN
        · exact h1 w (List.mem_filter.mpr ⟨hw, by unfold vx_no; rw [decide_eq_true e1, decide_eq_true e2, decide_eq_true e3, decide_eq_true e4]; rfl⟩)
/-- where a static field lies, its class's statics cell in H -/
def vx_L (C n d : String) (A : Nat → Prop) (U : State) (H : Heap) : Prop := ∃ (c : ClassId) (k : Class) (i : Nat) (f : Field) (a : Nat) (cell : Cell), U.vm.findClass C = some c ∧ U.fieldFound? C n d = some (c, k, i, f) ∧ f.isStatic = true ∧ k.statics = some a ∧ H[a]? = some cell ∧ cell.vm.isStatics = true ∧ cell.cls = c ∧ f.slot < cell.slots.size ∧ k.staticTypes[f.slot]? = some f.type ∧ ¬ A a
theorem vx_L.moved {C n d : String} {A : Nat → Prop} {u U : State} {H : Heap} (hvm : u.vm.Alike U.vm) (h : vx_L C n d A u H) : vx_L C n d A U H := by
  obtain ⟨c, k, i, f, a, cell, h1, h2, h3, h4, h5, h6, h7, h8, h9, h10⟩ := h
  obtain ⟨k', hi', he⟩ := State.fieldFound?_setVm hvm h2
  exact ⟨c, k', i, f, a, cell, by rw [hvm.findClass]; exact h1, hi', h3, by rw [he]; exact h4, h5, h6, h7, h8, by rw [he]; exact h9, h10⟩
theorem vx_L.kept {C n d : String} {A : Nat → Prop} {U : State} {H H1 : Heap} (h : vx_L C n d A U H) (hq : ∀ a : Nat, a < H.size → ¬ A a → H1[a]? = H[a]?) : vx_L C n d A U H1 := by
  obtain ⟨c, k, i, f, a, cell, h1, h2, h3, h4, h5, h6, h7, h8, h9, h10⟩ := h
  exact ⟨c, k, i, f, a, cell, h1, h2, h3, h4, by rw [hq a (Array.getElem?_eq_some_iff.mp h5).1 h10]; exact h5, h6, h7, h8, h9, h10⟩
theorem vx_L.narrow {C n d : String} {A B : Nat → Prop} {U : State} {H : Heap} (h : vx_L C n d A U H) (hAB : ∀ q, B q → A q) : vx_L C n d B U H := by
  obtain ⟨c, k, i, f, a, cell, h1, h2, h3, h4, h5, h6, h7, h8, h9, h10⟩ := h
  exact ⟨c, k, i, f, a, cell, h1, h2, h3, h4, h5, h6, h7, h8, h9, fun z => h10 (hAB _ z)⟩
theorem vx_L.word {C n d : String} {A : Nat → Prop} {s : State} {args : Array Value} (h : vx_L C n d A s s.heap) : (Cond.laysStatic C n d).before args s = true := by
  obtain ⟨c, k, i, f, a, cell, h1, h2, h3, h4, h5, h6, h7, h8, h9, -⟩ := h
  show (Cond.laysStatic C n d).holds args s none s [] = true
  exact Cond.laysStatic_of h1 h2 h3 h4 h5 h6 h7 h8 h9
/-- .. and what it holds: null or some reference -/
def vx_Zq (C n d : String) (A : Nat → Prop) (U : State) (H : Heap) : Prop := va_Zq C n d A U H ∧ vx_L C n d A U H
theorem vx_Zq.moved {C n d : String} {A : Nat → Prop} {u U : State} {H : Heap} (hvm : u.vm.Alike U.vm) (h : vx_Zq C n d A u H) : vx_Zq C n d A U H := ⟨va_Zq.moved hvm h.1, vx_L.moved hvm h.2⟩
theorem vx_Zq.kept {C n d : String} {A : Nat → Prop} {U : State} {H H1 : Heap} (h : vx_Zq C n d A U H) (hq : ∀ a : Nat, a < H.size → ¬ A a → H1[a]? = H[a]?) : vx_Zq C n d A U H1 := ⟨va_Zq.kept h.1 hq, vx_L.kept h.2 hq⟩
theorem vx_Zq.narrow {C n d : String} {A B : Nat → Prop} {U : State} {H : Heap} (h : vx_Zq C n d A U H) (hAB : ∀ q, B q → A q) : vx_Zq C n d B U H := ⟨va_Zq.narrow h.1 hAB, vx_L.narrow h.2 hAB⟩
theorem vx_Zqof {args : Array Value} {s : State} {C n d : String} {A : Nat → Prop} (hl : (Cond.laysStatic C n d).before args s = true) (hini : (Cond.initialized C).before args s = true) (h : (Cond.isRef (.static C n d)).before args s = true) (hA : ∀ a : Nat, a < s.heap.size → ¬ A a) : vx_Zq C n d A s s.heap := by
  refine ⟨va_Zqof hl hini h hA, ?_⟩
  obtain ⟨c, k, i, f, a, cell, h1, h2, h3, h4, h5, h6, h7, h8, h9⟩ := Cond.laysStatic_spec hl
  exact ⟨c, k, i, f, a, cell, h1, h2, h3, h4, h5, h6, h7, h8, h9, hA a (Array.getElem?_eq_some_iff.mp h5).1⟩
theorem vx_isRef {C n d : String} {v : Value} {A : Nat → Prop} {s : State} {args : Array Value} (h : va_Z C n d v A s s.heap) (hv : v.isRef = true) : (Cond.isRef (.static C n d)).before args s = true := by
  obtain ⟨cf, kf, fi, f, a, cell, h1, h2, h3, h4, h5, h6, h7, -⟩ := h
  have he : (Term.static C n d).eval args s none [] s = some v := by
    simp [Term.eval, State.fieldNamed?, h1, h2, h4, h5, h6, h7]
  simp only [Cond.before, Cond.holds, Cond.value, he]
  cases v <;> simp_all [Value.isRef]
theorem vx_isRefq {C n d : String} {A : Nat → Prop} {s : State} {args : Array Value} (h : va_Zq C n d A s s.heap) : (Cond.isRef (.static C n d)).before args s = true := by
  rcases h with h | ⟨t, h⟩
  · exact vx_isRef h rfl
  · exact vx_isRef h rfl
/-- the same frame, seen from here: as if the method were called anew in this heap -/
theorem vx_rebase {T : State} (X : Stand p l e R s m args below meth c T locs cells slots) {R' : Room} (hf : R'.frames ≤ R.frames) (hl : R'.locals ≤ R.locals) (hc : cells + R'.cells ≤ R.cells) (hs : slots + R'.slots ≤ R.slots) :
    Stand p l e R' ((T.setVm s.vm).setFrames (.invoking m args :: below)) m args below meth c T [] 0 0 := by
  have htop : (T.setVm s.vm).topJava?.isSome := X.here.top
  have hF : ((T.setVm s.vm).setFrames (.invoking m args :: below)).frames = .invoking m args :: below := State.frames_setFrames _ (State.cur_lt_of_top htop)
  obtain ⟨g₀, hg0⟩ := Option.isSome_iff_exists.mp htop
  obtain ⟨r, hr⟩ := State.topJava?_eq_some.mp hg0
  have hl9 : e.platform.stackLimits (T.setVm s.vm).me = e.platform.stackLimits s.me := X.limits
  have hb9 : (T.setVm s.vm).me.stackBytes = s.me.stackBytes := X.bytes
  refine ⟨X.admits, X.cas, X.clock, hF, ?_, X.hears, X.method, X.code, X.here, X.tail, X.warmed, ?_, ?_, ?_⟩
  · have h := X.room
    have hU : ((T.setVm s.vm).setFrames (.invoking m args :: below)).localsInUse = s.localsInUse := by
      rw [State.localsInUse_invoking hF (meth := meth) (c := c) X.method X.code, State.localsInUse_invoking X.frames X.method X.code]
    simp only [State.hasRoom, Bool.and_eq_true, decide_eq_true_eq] at h ⊢
    obtain ⟨⟨⟨⟨h1, h2, h3, h4, h5, h6⟩, h7⟩, h8⟩, h9⟩ := h
    rw [X.frames, List.length_cons] at h2 h3
    have q1 := X.heapSize
    have q2 := X.used
    simp only [hF, hU, List.length_cons, State.stackLimits_setFrames, State.stackBytes_setFrames, hl9, hb9]
    refine ⟨⟨⟨⟨by omega, by omega, by omega, by omega, by omega, h6⟩, ?_⟩, ?_⟩, X.book⟩
    · show T.heap.size + R'.cells ≤ e.platform.maxCells
      omega
    · show T.slotsUsed + R'.slots ≤ e.platform.maxSlots
      omega
  · rw [State.stackLimits_setFrames]; rfl
  · rw [State.stackBytes_setFrames]; rfl
  · refine ⟨?_, Nat.le_refl _, Nat.le_refl _, ?_, ?_, fun a c9 h9 => ⟨c9, h9, rfl, rfl, fun _ _ => rfl⟩⟩
    · obtain ⟨t, ht, -⟩ := State.frames_cons hr
      show T.setVm s.vm = { ((T.setVm s.vm).setFrames (.invoking m args :: below)).setFrames (T.setVm s.vm).frames with heap := T.heap, slotsUsed := T.slotsUsed }
      rw [State.setFrames_setFrames, State.setFrames_self ht]
      rfl
    · show T.slotsUsed = T.slotsUsed + ((T.heap.toList.drop T.heap.size).map (·.slots.size)).sum
      rw [List.drop_eq_nil_of_le (Nat.le_of_eq Array.length_toList)]
      rfl
    · show ((T.heap.toList.drop T.heap.size).map (·.slots.size)).sum ≤ 0
      rw [List.drop_eq_nil_of_le (Nat.le_of_eq Array.length_toList)]
      exact Nat.le_refl _
/-- 'throw new E()': new; dup; invokespecial; athrow -/
theorem vx_throw0 {cc : ByteArray} {pc : Nat} (hexec : p.tables.exec = Jvm.exec) (hb : c.code = cc) (hl : l.stackTraces = false) {own cls : String} {names : List String} {ik ic mc ms : Nat} {A : Nat → Prop}
    (hown : s.vm.findClass own = some m.cls) (hcls : Bundle.fit cls = true) (hnames : ∀ n ∈ names, Bundle.fit n = true)
    (hk : (Cond.classLink own ik cls).before args s = true) (hini : (Cond.initialized cls).before args s = true) (hat : ∀ w ∈ vx_at0 own ic cls names, w.before args s = true)
    (hgood : ∀ w ∈ Cond.classLink own ik cls :: Cond.initialized cls :: vx_at0 own ic cls names, vx_ot w = true)
    (hU : vx_Zq Bundle.tN "UNASSIGNED_STACK" Bundle.steD A s s.heap) (hN : vx_Zq Bundle.tN "SUPPRESSED_SENTINEL" Bundle.listD A s s.heap) (hS : va_S A s.heap H locs) (hsize : ls.size = c.maxLocals)
    (d0 : decode cc pc = .ok (.new ik, 3)) (d3 : decode cc (pc + 3) = .ok (.dup, 1)) (d4 : decode cc (pc + 4) = .ok (.invokespecial ic, 3)) (d7 : decode cc (pc + 7) = .ok (.athrow, 1))
    (hout : ∀ x ∈ c.exceptionTable.toList, covers x (pc + 7) = false)
    (hRframes : names.length + 3 < R.frames) (hRlocals : (rest.map fun v => v.category).sum + (13 * (names.length + 1) + 42) ≤ R.locals) (hRcells : cells + 1 ≤ R.cells) (hRslots : slots + 6 ≤ R.slots) (hlocks : meth.locks = false)
    (hx : ∀ t : State, s.vm.Alike t.vm → H.size ≤ t.heap.size → (∀ q : Nat, q < H.size → t.heap[q]? = H[q]?) → XC cls s t)
    (hf : ∀ z ∈ locs, free z.base) (hc : cells + 1 ≤ mc) (hs : slots + 6 ≤ ms) :
    W p l e R s m args below meth c H locs cells slots (vx_MQ below Qc XC args s mc ms free) (F0 m pc ls rest) := by
  intro T hT X
  have htr : e.platform.stackTraces = false := (show e.platform.stackTraces = l.stackTraces by rw [X.admits.platform]).trans hl
  have Y := vx_rebase X (R' := { frames := R.frames, locals := R.locals, cells := 1, slots := 6 }) (Nat.le_refl _) (Nat.le_refl _) hRcells hRslots
  obtain ⟨s', hA⟩ : ∃ z, z = (T.setVm s.vm).setFrames (.invoking m args :: below) := ⟨_, rfl⟩
  rw [← hA] at Y
  have hvm : s'.vm = s.vm := by rw [hA]; rfl
  have hhp : s'.heap = H := by rw [hA]; exact hT
  have hW0 : s.WarmedH s'.vm := by rw [hvm]; exact State.WarmedH.refl s
  have hat' : ∀ w ∈ vx_at0 own ic cls names, w.before args s' = true := fun w hw => vx_ot_at hW0 hvm.symm (hgood w (List.mem_cons_of_mem _ (List.mem_cons_of_mem _ hw))) (hat w hw)
  have hk' : (Cond.classLink own ik cls).before args s' = true := vx_ot_at hW0 hvm.symm (hgood _ List.mem_cons_self) hk
  have hini' : (Cond.initialized cls).before args s' = true := vx_ot_at hW0 hvm.symm (hgood _ (List.mem_cons_of_mem _ List.mem_cons_self)) hini
  have hU' : vx_Zq Bundle.tN "UNASSIGNED_STACK" Bundle.steD A s' s'.heap := by rw [hhp]; exact vx_Zq.moved hW0.alike (hU.kept hS.2.1)
  have hN' : vx_Zq Bundle.tN "SUPPRESSED_SENTINEL" Bundle.listD A s' s'.heap := by rw [hhp]; exact vx_Zq.moved hW0.alike (hN.kept hS.2.1)
  have h : ∀ w ∈ Bundle.ownAtoms0 own ic cls names, w.before args s' = true := vx_own hat' (vx_isRefq hU'.1) (vx_isRefq hN'.1) hU'.2.word hN'.2.word
  have hown' : s'.vm.findClass own = some m.cls := by rw [hvm]; exact hown
  have hins : (Cond.instantiable cls 6).before args s' = true := h _ (by simp [Bundle.ownAtoms0])
  obtain ⟨vm₁, cX, kX, hfX, hkX, -, -, X₁, st1⟩ := Y.newCold hexec (own := own) (C := cls) (index := ik) (n := 6) hown' hk' hins hini'
    (g := F0 m pc ls rest) rfl (by rw [hb]; exact d0) (Nat.le_refl _) (Nat.le_refl _)
  generalize hT1 : (T.setVm vm₁).pushCell { cls := cX, slots := kX.instanceTypes.map defaultValue, vm := .none } = T1 at X₁ st1
  have hcat : (Value.ref T.heap.size).category = 1 := rfl
  have hcellA : T1.heap[T.heap.size]? = some (freshCell cX kX) := by rw [← hT1]; exact State.heap_pushCell_size _ _
  have d3' : decode c.code (pc + 3) = .ok (.dup, 1) := by rw [hb]; exact d3
  obtain ⟨U, hsteps, hrun, hend, hW, hsame, ce, hce, hO⟩ := X₁.ctorThrow0 hexec htr (own := own) (cls := cls) (names := names) (ic := ic) hown' hcls hnames h (fun x hx => nomatch hx) hfX hkX hcellA (by rw [hhp, hT]; exact Nat.le_refl _)
    (g := { method := m, pc := pc + 4, locals := ls, stack := .ref T.heap.size :: .ref T.heap.size :: rest, locked := none }) rfl hsize rfl rfl (rest := rest) rfl
    (by rw [hb]; exact d4) (by rw [hb]; exact d7) hout hRframes (by simp only [List.map_cons, List.sum_cons, hcat]; omega) hlocks
  obtain ⟨f1, f2⟩ := vx_frame hsame
  rw [hhp] at f1 f2
  have hWs : s.WarmedH U.vm := State.WarmedH.trans hW0 hW
  have hcl : s.vm.findClass cls = some ce.cls := by
    have h9 := hO.cls
    rw [hvm] at h9
    exact h9
  have hall : s.sameButNew ({ U with vm := s.vm } : State) locs mc ms := by
    subst hA
    obtain ⟨e1, e2⟩ := hsame
    rw [State.setFrames_setFrames] at e1
    have h2 : (T.setVm s.vm).sameButNew ({ U with vm := s.vm } : State) [] (0 + 1) (0 + 6) := ⟨e1, e2⟩
    have h3 := X.same.trans h2
    rw [List.append_nil] at h3
    exact h3.mono hc hs
  refine ⟨U, ?_, .threw T.heap.size, hrun, hend, Or.inr ⟨T.heap.size, rfl, cls, ce, locs, hx U hWs.alike f1 (fun q hq => f2 q hq (fun z hz => nomatch hz)), hce, hO.vm, hcl, hWs, hall, hf⟩⟩
  refine st1 _ ?_
  show Steps p.tables e below (T1.setTop { method := m, pc := pc + 3, locals := ls, stack := .ref T.heap.size :: rest, locked := none }) _
  jvm_step X₁.here [X₁.here.top, hexec, d3', Value.category]
  exact hsteps
/-- 'throw new E("text")': new; dup; ldc; invokespecial; athrow -/
theorem vx_throwS {cc : ByteArray} {pc : Nat} (hexec : p.tables.exec = Jvm.exec) (hb : c.code = cc) (hl : l.stackTraces = false) {own cls text : String} {names : List String} {ik is ic mc ms sa : Nat} {A : Nat → Prop}
    (hown : s.vm.findClass own = some m.cls) (hcls : Bundle.fit cls = true) (hnames : ∀ n ∈ names, Bundle.fit n = true)
    (hk : (Cond.classLink own ik cls).before args s = true) (hini : (Cond.initialized cls).before args s = true) (hstr : vk_R own is text sa s) (hat : ∀ w ∈ vx_atS own ic cls names, w.before args s = true)
    (hgood : ∀ w ∈ Cond.classLink own ik cls :: Cond.initialized cls :: vx_atS own ic cls names, vx_ot w = true)
    (hU : vx_Zq Bundle.tN "UNASSIGNED_STACK" Bundle.steD A s s.heap) (hN : vx_Zq Bundle.tN "SUPPRESSED_SENTINEL" Bundle.listD A s s.heap) (hS : va_S A s.heap H locs) (hsize : ls.size = c.maxLocals)
    (d0 : decode cc pc = .ok (.new ik, 3)) (d3 : decode cc (pc + 3) = .ok (.dup, 1)) (d4 : decode cc (pc + 4) = .ok (.ldc is, 2)) (d6 : decode cc (pc + 6) = .ok (.invokespecial ic, 3)) (d9 : decode cc (pc + 9) = .ok (.athrow, 1))
    (hout : ∀ x ∈ c.exceptionTable.toList, covers x (pc + 9) = false)
    (hRframes : names.length + 3 < R.frames) (hRlocals : (rest.map fun v => v.category).sum + (13 * (names.length + 1) + 43) ≤ R.locals) (hRcells : cells + 1 ≤ R.cells) (hRslots : slots + 6 ≤ R.slots) (hlocks : meth.locks = false)
    (hx : ∀ t : State, s.vm.Alike t.vm → H.size ≤ t.heap.size → (∀ q : Nat, q < H.size → t.heap[q]? = H[q]?) → XC cls s t)
    (hf : ∀ z ∈ locs, free z.base) (hc : cells + 1 ≤ mc) (hs : slots + 6 ≤ ms) :
    W p l e R s m args below meth c H locs cells slots (vx_MQ below Qc XC args s mc ms free) (F0 m pc ls rest) := by
  intro T hT X
  have htr : e.platform.stackTraces = false := (show e.platform.stackTraces = l.stackTraces by rw [X.admits.platform]).trans hl
  have Y := vx_rebase X (R' := { frames := R.frames, locals := R.locals, cells := 1, slots := 6 }) (Nat.le_refl _) (Nat.le_refl _) hRcells hRslots
  obtain ⟨s', hA⟩ : ∃ z, z = (T.setVm s.vm).setFrames (.invoking m args :: below) := ⟨_, rfl⟩
  rw [← hA] at Y
  have hvm : s'.vm = s.vm := by rw [hA]; rfl
  have hhp : s'.heap = H := by rw [hA]; exact hT
  have hW0 : s.WarmedH s'.vm := by rw [hvm]; exact State.WarmedH.refl s
  have hat' : ∀ w ∈ vx_atS own ic cls names, w.before args s' = true := fun w hw => vx_ot_at hW0 hvm.symm (hgood w (List.mem_cons_of_mem _ (List.mem_cons_of_mem _ hw))) (hat w hw)
  have hk' : (Cond.classLink own ik cls).before args s' = true := vx_ot_at hW0 hvm.symm (hgood _ List.mem_cons_self) hk
  have hini' : (Cond.initialized cls).before args s' = true := vx_ot_at hW0 hvm.symm (hgood _ (List.mem_cons_of_mem _ List.mem_cons_self)) hini
  have hU' : vx_Zq Bundle.tN "UNASSIGNED_STACK" Bundle.steD A s' s'.heap := by rw [hhp]; exact vx_Zq.moved hW0.alike (hU.kept hS.2.1)
  have hN' : vx_Zq Bundle.tN "SUPPRESSED_SENTINEL" Bundle.listD A s' s'.heap := by rw [hhp]; exact vx_Zq.moved hW0.alike (hN.kept hS.2.1)
  have h : ∀ w ∈ Bundle.ownAtoms own ic cls names, w.before args s' = true := vx_own hat' (vx_isRefq hU'.1) (vx_isRefq hN'.1) hU'.2.word hN'.2.word
  have hown' : s'.vm.findClass own = some m.cls := by rw [hvm]; exact hown
  have hins : (Cond.instantiable cls 6).before args s' = true := h _ (by simp [Bundle.ownAtoms])
  obtain ⟨vm₁, cX, kX, hfX, hkX, -, -, X₁, st1⟩ := Y.newCold hexec (own := own) (C := cls) (index := ik) (n := 6) hown' hk' hins hini'
    (g := F0 m pc ls rest) rfl (by rw [hb]; exact d0) (Nat.le_refl _) (Nat.le_refl _)
  generalize hT1 : (T.setVm vm₁).pushCell { cls := cX, slots := kX.instanceTypes.map defaultValue, vm := .none } = T1 at X₁ st1
  have hcat : (Value.ref T.heap.size).category = 1 := rfl
  have hcellA : T1.heap[T.heap.size]? = some (freshCell cX kX) := by rw [← hT1]; exact State.heap_pushCell_size _ _
  have d3' : decode c.code (pc + 3) = .ok (.dup, 1) := by rw [hb]; exact d3
  have d4' : decode c.code (pc + 4) = .ok (.ldc is, 2) := by rw [hb]; exact d4
  have hstr' : vk_R own is text sa s' := vk_R.warm hW0 hstr
  obtain ⟨U, hsteps, hrun, hend, hW, hsame, ce, hce, hO⟩ := X₁.ctorThrowS hexec htr (own := own) (cls := cls) (names := names) (ic := ic) hown' hcls hnames h (fun x hx => nomatch hx) hfX hkX hcellA (by rw [hhp, hT]; exact Nat.le_refl _) (msg := .ref sa) rfl
    (g := { method := m, pc := pc + 6, locals := ls, stack := .ref sa :: .ref T.heap.size :: .ref T.heap.size :: rest, locked := none }) rfl hsize rfl rfl (rest := rest) rfl
    (by rw [hb]; exact d6) (by rw [hb]; exact d9) hout hRframes (by simp only [List.map_cons, List.sum_cons, hcat]; omega) hlocks
  obtain ⟨f1, f2⟩ := vx_frame hsame
  rw [hhp] at f1 f2
  have hWs : s.WarmedH U.vm := State.WarmedH.trans hW0 hW
  have hcl : s.vm.findClass cls = some ce.cls := by
    have h9 := hO.cls
    rw [hvm] at h9
    exact h9
  have hall : s.sameButNew ({ U with vm := s.vm } : State) locs mc ms := by
    subst hA
    obtain ⟨e1, e2⟩ := hsame
    rw [State.setFrames_setFrames] at e1
    have h2 : (T.setVm s.vm).sameButNew ({ U with vm := s.vm } : State) [] (0 + 1) (0 + 6) := ⟨e1, e2⟩
    have h3 := X.same.trans h2
    rw [List.append_nil] at h3
    exact h3.mono hc hs
  refine ⟨U, ?_, .threw T.heap.size, hrun, hend, Or.inr ⟨T.heap.size, rfl, cls, ce, locs, hx U hWs.alike f1 (fun q hq => f2 q hq (fun z hz => nomatch hz)), hce, hO.vm, hcl, hWs, hall, hf⟩⟩
  refine st1 _ ?_
  show Steps p.tables e below (T1.setTop { method := m, pc := pc + 3, locals := ls, stack := .ref T.heap.size :: rest, locked := none }) _
  jvm_step X₁.here [X₁.here.top, hexec, d3', Value.category]
  exact X₁.ldcString hexec (own := own) (text := text) (index := is) (a := sa) hown' hstr'.1 hstr'.2
    (g := { method := m, pc := pc + 4, locals := ls, stack := .ref T.heap.size :: .ref T.heap.size :: rest, locked := none }) rfl d4' _ hsteps
/-- 'throw new E("text")', the text by a wide index -/
theorem vx_throwSW {cc : ByteArray} {pc : Nat} (hexec : p.tables.exec = Jvm.exec) (hb : c.code = cc) (hl : l.stackTraces = false) {own cls text : String} {names : List String} {ik is ic mc ms sa : Nat} {A : Nat → Prop}
    (hown : s.vm.findClass own = some m.cls) (hcls : Bundle.fit cls = true) (hnames : ∀ n ∈ names, Bundle.fit n = true)
    (hk : (Cond.classLink own ik cls).before args s = true) (hini : (Cond.initialized cls).before args s = true) (hstr : vk_R own is text sa s) (hat : ∀ w ∈ vx_atS own ic cls names, w.before args s = true)
    (hgood : ∀ w ∈ Cond.classLink own ik cls :: Cond.initialized cls :: vx_atS own ic cls names, vx_ot w = true)
    (hU : vx_Zq Bundle.tN "UNASSIGNED_STACK" Bundle.steD A s s.heap) (hN : vx_Zq Bundle.tN "SUPPRESSED_SENTINEL" Bundle.listD A s s.heap) (hS : va_S A s.heap H locs) (hsize : ls.size = c.maxLocals)
    (d0 : decode cc pc = .ok (.new ik, 3)) (d3 : decode cc (pc + 3) = .ok (.dup, 1)) (d4 : decode cc (pc + 4) = .ok (.ldc_w is, 3)) (d7 : decode cc (pc + 7) = .ok (.invokespecial ic, 3)) (d10 : decode cc (pc + 10) = .ok (.athrow, 1))
    (hout : ∀ x ∈ c.exceptionTable.toList, covers x (pc + 10) = false)
    (hRframes : names.length + 3 < R.frames) (hRlocals : (rest.map fun v => v.category).sum + (13 * (names.length + 1) + 43) ≤ R.locals) (hRcells : cells + 1 ≤ R.cells) (hRslots : slots + 6 ≤ R.slots) (hlocks : meth.locks = false)
    (hx : ∀ t : State, s.vm.Alike t.vm → H.size ≤ t.heap.size → (∀ q : Nat, q < H.size → t.heap[q]? = H[q]?) → XC cls s t)
    (hf : ∀ z ∈ locs, free z.base) (hc : cells + 1 ≤ mc) (hs : slots + 6 ≤ ms) :
    W p l e R s m args below meth c H locs cells slots (vx_MQ below Qc XC args s mc ms free) (F0 m pc ls rest) := by
  intro T hT X
  have htr : e.platform.stackTraces = false := (show e.platform.stackTraces = l.stackTraces by rw [X.admits.platform]).trans hl
  have Y := vx_rebase X (R' := { frames := R.frames, locals := R.locals, cells := 1, slots := 6 }) (Nat.le_refl _) (Nat.le_refl _) hRcells hRslots
  obtain ⟨s', hA⟩ : ∃ z, z = (T.setVm s.vm).setFrames (.invoking m args :: below) := ⟨_, rfl⟩
  rw [← hA] at Y
  have hvm : s'.vm = s.vm := by rw [hA]; rfl
  have hhp : s'.heap = H := by rw [hA]; exact hT
  have hW0 : s.WarmedH s'.vm := by rw [hvm]; exact State.WarmedH.refl s
  have hat' : ∀ w ∈ vx_atS own ic cls names, w.before args s' = true := fun w hw => vx_ot_at hW0 hvm.symm (hgood w (List.mem_cons_of_mem _ (List.mem_cons_of_mem _ hw))) (hat w hw)
  have hk' : (Cond.classLink own ik cls).before args s' = true := vx_ot_at hW0 hvm.symm (hgood _ List.mem_cons_self) hk
  have hini' : (Cond.initialized cls).before args s' = true := vx_ot_at hW0 hvm.symm (hgood _ (List.mem_cons_of_mem _ List.mem_cons_self)) hini
  have hU' : vx_Zq Bundle.tN "UNASSIGNED_STACK" Bundle.steD A s' s'.heap := by rw [hhp]; exact vx_Zq.moved hW0.alike (hU.kept hS.2.1)
  have hN' : vx_Zq Bundle.tN "SUPPRESSED_SENTINEL" Bundle.listD A s' s'.heap := by rw [hhp]; exact vx_Zq.moved hW0.alike (hN.kept hS.2.1)
  have h : ∀ w ∈ Bundle.ownAtoms own ic cls names, w.before args s' = true := vx_own hat' (vx_isRefq hU'.1) (vx_isRefq hN'.1) hU'.2.word hN'.2.word
  have hown' : s'.vm.findClass own = some m.cls := by rw [hvm]; exact hown
  have hins : (Cond.instantiable cls 6).before args s' = true := h _ (by simp [Bundle.ownAtoms])
  obtain ⟨vm₁, cX, kX, hfX, hkX, -, -, X₁, st1⟩ := Y.newCold hexec (own := own) (C := cls) (index := ik) (n := 6) hown' hk' hins hini'
    (g := F0 m pc ls rest) rfl (by rw [hb]; exact d0) (Nat.le_refl _) (Nat.le_refl _)
  generalize hT1 : (T.setVm vm₁).pushCell { cls := cX, slots := kX.instanceTypes.map defaultValue, vm := .none } = T1 at X₁ st1
  have hcat : (Value.ref T.heap.size).category = 1 := rfl
  have hcellA : T1.heap[T.heap.size]? = some (freshCell cX kX) := by rw [← hT1]; exact State.heap_pushCell_size _ _
  have d3' : decode c.code (pc + 3) = .ok (.dup, 1) := by rw [hb]; exact d3
  have d4' : decode c.code (pc + 4) = .ok (.ldc_w is, 3) := by rw [hb]; exact d4
  have hstr' : vk_R own is text sa s' := vk_R.warm hW0 hstr
  obtain ⟨U, hsteps, hrun, hend, hW, hsame, ce, hce, hO⟩ := X₁.ctorThrowS hexec htr (own := own) (cls := cls) (names := names) (ic := ic) hown' hcls hnames h (fun x hx => nomatch hx) hfX hkX hcellA (by rw [hhp, hT]; exact Nat.le_refl _) (msg := .ref sa) rfl
    (g := { method := m, pc := pc + 7, locals := ls, stack := .ref sa :: .ref T.heap.size :: .ref T.heap.size :: rest, locked := none }) rfl hsize rfl rfl (rest := rest) rfl
    (by rw [hb]; exact d7) (by rw [hb]; exact d10) hout hRframes (by simp only [List.map_cons, List.sum_cons, hcat]; omega) hlocks
  obtain ⟨f1, f2⟩ := vx_frame hsame
  rw [hhp] at f1 f2
  have hWs : s.WarmedH U.vm := State.WarmedH.trans hW0 hW
  have hcl : s.vm.findClass cls = some ce.cls := by
    have h9 := hO.cls
    rw [hvm] at h9
    exact h9
  have hall : s.sameButNew ({ U with vm := s.vm } : State) locs mc ms := by
    subst hA
    obtain ⟨e1, e2⟩ := hsame
    rw [State.setFrames_setFrames] at e1
    have h2 : (T.setVm s.vm).sameButNew ({ U with vm := s.vm } : State) [] (0 + 1) (0 + 6) := ⟨e1, e2⟩
    have h3 := X.same.trans h2
    rw [List.append_nil] at h3
    exact h3.mono hc hs
  refine ⟨U, ?_, .threw T.heap.size, hrun, hend, Or.inr ⟨T.heap.size, rfl, cls, ce, locs, hx U hWs.alike f1 (fun q hq => f2 q hq (fun z hz => nomatch hz)), hce, hO.vm, hcl, hWs, hall, hf⟩⟩
  refine st1 _ ?_
  show Steps p.tables e below (T1.setTop { method := m, pc := pc + 3, locals := ls, stack := .ref T.heap.size :: rest, locked := none }) _
  jvm_step X₁.here [X₁.here.top, hexec, d3', Value.category]
  exact X₁.ldcStringW hexec (own := own) (text := text) (index := is) (a := sa) hown' hstr'.1 hstr'.2
    (g := { method := m, pc := pc + 4, locals := ls, stack := .ref T.heap.size :: .ref T.heap.size :: rest, locked := none }) rfl d4' _ hsteps
end Ends
section Bodies
variable {l : Launch}
theorem vx_ofW {y : MethodName} {ws ws' : List Cond} {rm : Room} {Pc : Array Value → State → Prop} {Qc : Array Value → State → Outcome → State → Prop} {XC : String → State → State → Prop} {mc ms : Nat} {free : Addr → Prop} {cc : ByteArray} {maxL : Nat} {ret : Option FieldType}
    (hy : plainName y.cls = true) (hw : ws = Cond.code y cc maxL ret :: ws')
    (body : ∀ p e s m args below meth c s₁, BodyLoose p l y (headSpec ws rm) cc maxL ret e s m args below meth c s₁ → c.maxLocals = maxL → (∀ x ∈ c.exceptionTable.toList, False) → Pc args s →
      W p l e (headSpec ws rm).room s m args below meth c s.heap [] 0 0 (vx_MQ below Qc XC args s mc ms free) (entryFrame m args maxL)) : vx_Met l y ws rm Pc Qc XC mc ms free := by
  refine MetFree.of_bodyS (code := cc) (maxLocals := maxL) (ret := ret) hy ?_ ?_
  · intro args s m h hn
    obtain ⟨meth, c, h1, h2, h3, h4, h5, h6, -, -⟩ := Cond.code_spec hn (atoms_spec (ws := ws) h _ (by rw [hw]; exact List.mem_cons_self))
    exact ⟨meth, c, h1, h2, h3, h4, h5, h6⟩
  · intro p e s m args below meth c s₁ B hml hP _
    have hh0 : s₁.heap = s.heap := by rw [B.state]; rfl
    have ht : ∀ x ∈ c.exceptionTable.toList, False := by
      obtain ⟨meth9, c9, h1, h2, -, -, -, -, h7, -⟩ := Cond.code_spec B.named (atoms_spec (ws := ws) B.pre _ (by rw [hw]; exact List.mem_cons_self))
      cases Option.some.inj (h1.symm.trans B.method)
      cases Option.some.inj (h2.symm.trans (Stand.of_body B).code)
      intro x hx
      rw [Array.isEmpty_iff.mp h7] at hx
      cases hx
    obtain ⟨t, a1, o, b1, b2, b3⟩ := body p e s m args below meth c s₁ B hml ht hP s₁ hh0 (Stand.of_body B)
    exact ⟨t, o, a1, b1, b2, b3⟩
/-- the table of a body with handlers -/
theorem vx_table {p : Program} {x y : MethodName} {S : Spec} {cc bytes : ByteArray} {maxL maxL' : Nat} {ret ret' : Option FieldType} {e : Env} {s s₁ : State} {m : MethodId} {args : Array Value} {below : List Frame} {meth : Method} {c : Code} {hh : List (Nat × Nat × Nat × Nat)}
    (B : BodyLoose p l y S cc maxL ret e s m args below meth c s₁) (h : (Cond.codeWith y bytes maxL' ret' hh).before args s = true) : c.exceptionTable.toList = tableOf hh := by
  obtain ⟨m9, meth9, c9, hn9, h1, h2, -, -, h6, -⟩ := Cond.codeWith_spec h
  cases Option.some.inj (hn9.symm.trans B.named)
  cases Option.some.inj (h1.symm.trans B.method)
  cases Option.some.inj (h2.symm.trans (Stand.of_body B).code)
  rw [← h6, table_eq]
end Bodies
end VXA
/-! ===== END ===== -/
/-! ===== BEGIN a static call of a method with an exception table ===== -/
section VXS
variable {p : Program} {l : Launch} {e : Env} {R : Room} {s : State} {m : MethodId} {args : Array Value} {below : List Frame} {meth : Method} {c : Code} {T : State} {H : Heap} {locs : List Loc} {cells slots : Nat}
abbrev vx_CSW (R : Room) (s : State) (args : Array Value) (own : String) (index : Nat) (y : MethodName) (bytes : ByteArray) (maxL : Nat) (ret : Option FieldType) (hh : List (Nat × Nat × Nat × Nat)) (ws : List Cond) (rm : Room) (mc ms n : Nat) : Prop :=
  (rm.cells = mc ∧ rm.slots = ms ∧ rm.frames + 1 ≤ R.frames ∧ 8 + (maxL + 11) + rm.locals ≤ R.locals ∧ (∀ w ∈ ws, ∀ (a' : Array Value) (U : State), s.WarmedH U.vm → w.before a' U = true) ∧ Cond.codeWith y bytes maxL ret hh ∈ ws) ∧
  (Cond.codeWith y bytes maxL ret hh).before args s = true ∧ (Cond.initialized y.cls).before args s = true ∧ (y.cls ≠ "java/lang/invoke/MethodHandle" ∧ y.cls ≠ "java/lang/invoke/VarHandle") ∧
  (∀ sig, parseMethodDescriptor y.desc = some sig → n = sig.parameters.length) ∧ (Cond.methodLink own index y).before args s = true ∧ (Cond.static y).before args s = true
theorem vx_cwSW {own : String} {index maxL mc ms : Nat} {y : MethodName} {bytes : ByteArray} {ret : Option FieldType} {hh : List (Nat × Nat × Nat × Nat)} {Ts ws ws' : List Cond} {rm : Room} (n : Nat) (ht : ∀ w ∈ Ts, w.before args s = true) (hT : GoodIn Ts (va_wsS own index y ws)) (hw : ws = Cond.codeWith y bytes maxL ret hh :: ws') (hrc : rm.cells = mc) (hrs : rm.slots = ms)
    (hd : y.cls ≠ "java/lang/invoke/MethodHandle" ∧ y.cls ≠ "java/lang/invoke/VarHandle" ∧ (parseMethodDescriptor y.desc).map (fun d => d.parameters.length) = some n) (hR : rm.frames + 1 ≤ R.frames ∧ 8 + (maxL + 11) + rm.locals ≤ R.locals) :
    vx_CSW R s args own index y bytes maxL ret hh ws rm mc ms n := by
  have ok : ∀ w ∈ va_wsS own index y ws, w.before args s = true := fun w h => ht w (hT w h).1
  have hG : GoodIn Ts ws := fun w h => hT w (by unfold va_wsS; exact List.mem_append_right _ h)
  have hc : Cond.codeWith y bytes maxL ret hh ∈ ws := by rw [hw]; exact List.mem_cons_self
  refine ⟨⟨hrc, hrs, hR.1, hR.2, pay_in ht hG, hc⟩, ht _ (hG _ hc).1, ok _ (by simp [va_wsS]), ⟨hd.1, hd.2.1⟩, fun sig h => ?_, ok _ (by simp [va_wsS]), ok _ (by simp [va_wsS])⟩
  have h2 := hd.2.2
  rw [h] at h2
  exact (Option.some.inj h2).symm
theorem vx_callSW (X : Stand p l e R s m args below meth c T locs cells slots) (hexec : p.tables.exec = Jvm.exec) {own : String} {index : Nat} {y : MethodName} {bytes : ByteArray} {maxL : Nat} {ret : Option FieldType} {hh : List (Nat × Nat × Nat × Nat)}
    (hown : s.vm.findClass own = some m.cls) (hlink : (Cond.methodLink own index y).before args s = true) (hstat : (Cond.static y).before args s = true) (hinit : (Cond.initialized y.cls).before args s = true)
    (hcode : (Cond.codeWith y bytes maxL ret hh).before args s = true) (hy : y.cls ≠ "java/lang/invoke/MethodHandle" ∧ y.cls ≠ "java/lang/invoke/VarHandle")
    {W9 : Nat} {Pre : Pt → Array Value → Prop} {Post : Pt → Array Value → Option Value → Pt → Prop} (hK : Back l R p e below s args y 3 W9 Pre Post)
    {g : JFrame} (hg : g.method = m) (hsize : g.locals.size = c.maxLocals) {argsL rest : List Value} (hlen : ∀ sig, parseMethodDescriptor y.desc = some sig → argsL.length = sig.parameters.length)
    (hstack : g.stack = argsL.reverse ++ rest) (hW : 2 * g.monitorRoom + (rest.map fun v => v.category).sum ≤ W9) (hdg : decode c.code g.pc = .ok (.invokestatic index, 3))
    (hpre : ∀ vm₁, s.WarmedH vm₁ → Pre ⟨T.setVm vm₁, locs, cells, slots⟩ argsL.toArray) :
    ∃ (v : Option Value) (vm₁ : Vm) (B : Pt), s.WarmedH vm₁ ∧ Stand p l e R s m args below meth c B.U B.locs B.cells B.slots ∧ Post ⟨T.setVm vm₁, locs, cells, slots⟩ argsL.toArray v B ∧
      ∀ target, Steps p.tables e below (B.U.setTop { g with pc := g.pc + 3, stack := v.toList ++ rest }) target → Steps p.tables e below (T.setTop g) target := by
  obtain ⟨mk, methM, cM, hnamed, hmethM, -, -, -, -, -, -, hsigM⟩ := Cond.codeWith_spec hcode
  have hstatic : methM.isStatic = true := Cond.static_spec hnamed hmethM hstat
  obtain ⟨kP, hkP, -⟩ := className_of_methodNamed hnamed
  have hinitP : kP.init = .initialized := Cond.initialized_spec (findClass_of_methodNamed hnamed) hkP hinit
  obtain ⟨vm₁, X₁, hstep₁⟩ := X.invokestatic hexec hown hlink hnamed hmethM hstatic hkP hinitP hy (g := g) hg (argsL := argsL) (rest := rest) (hlen _ hsigM) hstack hdg
  obtain ⟨v, B, X', hpost, hsteps⟩ := hK m meth c ⟨T.setVm vm₁, locs, cells, slots⟩ { g with stack := rest } (.invokestatic index) mk argsL.toArray X₁ hg hsize hdg hW (X₁.named hnamed) (hpre vm₁ X₁.warmed)
  exact ⟨v, vm₁, B, X₁.warmed, X', hpost, fun target h => hstep₁ _ fun acts => by rw [doInvoke_state]; exact hsteps.trans h⟩
theorem vx_runSW {y : MethodName} {bytes cc : ByteArray} {maxL nL mc ms n index : Nat} {ret : Option FieldType} {hh : List (Nat × Nat × Nat × Nat)} {ws : List Cond} {rm : Room} {Pc : Array Value → State → Prop} {Qc : Array Value → State → Outcome → State → Prop} {free : Addr → Prop} {Ts : List Cond} {own : String} {As rest : List Value} {g : JFrame}
    (S : CallFix p m c cc nL s args Ts own) (hM : Met l y ws rm Pc Qc mc ms free) (cw : vx_CSW R s args own index y bytes maxL ret hh ws rm mc ms n) (hp : PreS s H Pc As)
    (hg : g.method = m) (hn : As.length = n) (hsize : g.locals.size = nL) (hstack : g.stack = As.reverse ++ rest) (hW : 2 * g.monitorRoom + (rest.map fun v => v.category).sum ≤ 8) (hdg : decode cc g.pc = .ok (.invokestatic index, 3)) (hf : cells + mc ≤ R.cells ∧ slots + ms ≤ R.slots) :
    va_Run p l e R s m args below meth c H locs cells slots mc ms g rest (Qc As.toArray) (free) := by
  obtain ⟨⟨hrc, hrs, hfr, hlo, hws, hcw⟩, hcode, hini, hy, hlen, hl, hstt⟩ := cw
  have hK : Back l R p e below s args y 3 8 (PreOf R mc ms Pc) (PostOf Qc mc ms free) := va_backW (hh := hh) (bytes := bytes) (maxL := maxL) (ret := ret) hM hp.1 hrc hrs hfr hlo hws hcw (fun a' U hW => word_at hW (Or.inl (by first | rfl | simp [Cond.onTables, Cond.keeps, Cond.steady])) hini)
  obtain ⟨hx, hb, hml, ho, -⟩ := S
  intro T hT X
  obtain ⟨v, vm₁, ⟨U', l2, c2, s2⟩, hW₁, X', ⟨g', mk, t, L, e1, e2, hq, h1, hL, h2, h3⟩, st⟩ := vx_callSW X hx (hh := hh) (bytes := bytes) (maxL := maxL) (ret := ret) ho hl hstt hini hcode hy hK hg (hsize.trans hml.symm) (argsL := As) (rest := rest) (fun sig h => hn.trans (hlen sig h)) hstack hW (by rw [hb]; exact hdg)
    (fun vm₁ hW₁ => ⟨hf.1, hf.2, hp.2 (T.setVm vm₁) hT hW₁⟩)
  dsimp only [Pt.U, Pt.locs, Pt.cells, Pt.slots] at X' e1 e2 h1 h2 h3 st
  subst h1; subst h2; subst h3
  exact ⟨v, (T.setVm vm₁).calling g' mk As.toArray, t, U', L, hT, X', hL, e1, e2, hq, st⟩
/-- not caught here, past rows that name other classes: it goes on to the caller -/
theorem vx_outP {p : Program} {l : Launch} {e : Env} {R : Room} {s : State} {m : MethodId} {args : Array Value} {below : List Frame} {meth : Method} {c : Code} {H : Heap} {locs : List Loc} {cells slots : Nat} {free : Addr → Prop} {ls : Array Slot} {rest : List Value} {Qc : Array Value → State → Outcome → State → Prop} {XC : String → State → State → Prop}
    {pc : Nat} {own E : String} {ce : Cell} {q : Addr} {mc ms : Nat} (hown : s.vm.findClass own = some m.cls) (hlocks : meth.locks = false)
    (hpass : ∀ z ∈ c.exceptionTable.toList, covers z pc = false ∨ (z.catchType ≠ 0 ∧ ∃ nm : String, (Cond.classLink own z.catchType nm).before args s = true ∧ va_Nc E nm s)) (hcell : H[q]? = some ce) (hv : ce.vm = .none) (hcl : s.vm.findClass E = some ce.cls)
    (hx : ∀ t : State, t.heap = H → s.vm.Alike t.vm → XC E s t) (hf : ∀ z ∈ locs, free z.base) (hc : cells ≤ mc) (hs : slots ≤ ms) :
    vx_W p l e R s m args below meth c H locs cells slots (vx_MQ below Qc XC args s mc ms free) (F0 m pc ls rest) q := by
  intro T hT X
  have hpl : e.platform.magicAccessors = ({} : Platform).magicAccessors := by rw [X.admits.platform]
  obtain ⟨vm', hW', X', st⟩ := X.outThrough hlocks q (g := F0 m pc ls rest) rfl rfl rfl (cell := ce) (by rw [hT]; exact hcell) (by rw [hv]; rfl)
    (by obtain ⟨k9, h9, -⟩ := Vm.findClass_spec hcl; exact ⟨k9, h9⟩) (fun z hz => by
      rcases hpass z hz with h | ⟨hz0, nm, hl1, hn1⟩
      · exact Or.inl h
      · obtain ⟨c6, hc6, hcl6⟩ := Cond.classLink_spec hown hl1 e.platform hpl
        obtain ⟨a8, b8, h1, h2, h3⟩ := hn1
        cases Option.some.inj (h1.symm.trans hcl)
        cases Option.some.inj (h2.symm.trans hc6)
        exact Or.inr ⟨hz0, _, hcl6, h3⟩)
  obtain ⟨g₀, hfr⟩ := X'.frames_eq
  have hcell9 : ((T.setVm vm').setFrames (.throwing q :: below)).heap[q]? = some ce := by
    show T.heap[q]? = some ce
    rw [hT]; exact hcell
  have hend : Ended ((T.setVm vm').setFrames (.throwing q :: below)) below (.threw q) := State.frames_setFrames _ (State.cur_lt_of_frames hfr)
  refine ⟨(T.setVm vm').setFrames (.throwing q :: below), ?_, .threw q, X'.here.running, hend, Or.inr ⟨q, rfl, E, ce, locs, hx _ hT (X'.ends _).1.alike, hcell9, hv, hcl, (X'.ends _).1, (X'.ends _).2.mono hc hs, hf⟩⟩
  rw [X.pushThrowing_eq]
  exact st
/-- a thing of a world lies in the heap -/
theorem vx_lt {D : va_G} {cl : List vw_C} {ws : va_W} {H1 : Heap} (h : va_P D cl ws H1) {k : Nat} {q : Nat × va_E} (hk : ws[k]? = some q) : q.1 < H1.size := (h k q hk).lt
end VXS
/-! ===== END ===== -/
/-! ===== BEGIN methods with a table of their own: called by a name, returning or throwing ===== -/
section VXH
/-! vx_backW, vx_callVX, vx_callSX, vx_callVW, vx_runVW, vx_runVX, vx_runSX, vx_ofWH follow the same proofs as their sisters above (Free/Laws.lean, Shelf42/LK1.lean); vx_outP calls Shelf42/NT130.lean (outThrough). -/
section
variable {l : Launch} {R : Room} {p : Program} {e : Env} {below : List Frame} {s : State} {sargs : Array Value} {y : MethodName} {len W9 : Nat}
theorem vx_backW {ws : List Cond} {rm : Room} {Pc : Array Value → State → Prop} {Qc : Array Value → State → Outcome → State → Prop} {XC : String → State → State → Prop} {mc ms : Nat} {free : Addr → Prop} {bytes : ByteArray} {maxL : Nat} {ret : Option FieldType} {hh : List (Nat × Nat × Nat × Nat)}
    (hM : vx_Met l y ws rm Pc Qc XC mc ms free) (hblind : FrameBlind Pc) (hrc : rm.cells = mc) (hrs : rm.slots = ms)
    (hframes : rm.frames + 1 ≤ R.frames) (hlocals : W9 + (maxL + 11) + rm.locals ≤ R.locals)
    (hws : ∀ w ∈ ws, ∀ a' U, s.WarmedH U.vm → w.before a' U = true) (hcode : Cond.codeWith y bytes maxL ret hh ∈ ws) (hinit : ∀ a' U, s.WarmedH U.vm → (Cond.initialized y.cls).before a' U = true) :
    vx_Back l R p e below s sargs y len W9 (PreOf R mc ms Pc) (PostOf Qc mc ms free) (vx_Post XC mc ms free) := by
  intro m meth c A g ig mk a X hg hsize hdg hW hn hp
  have h1 : (headSpec ws rm).pre.before a A.U = true := atoms_intro fun w hw => hws w hw _ _ X.warmed
  have h2 : (Cond.codeWith y bytes maxL ret hh).before a A.U = true := hws _ hcode _ _ X.warmed
  have h3 : (Cond.initialized y.cls).before a A.U = true := hinit _ _ X.warmed
  have h4 : A.cells + (headSpec ws rm).room.cells ≤ R.cells := by rw [show (headSpec ws rm).room.cells = mc from hrc]; exact hp.1
  have h5 : A.slots + (headSpec ws rm).room.slots ≤ R.slots := by rw [show (headSpec ws rm).room.slots = ms from hrs]; exact hp.2.1
  have hPc : Pc a (A.U.calling g mk a) := hblind _ _ _ _ hp.2.2
  obtain ⟨U, Ls, c0, s0⟩ := A
  dsimp only [Pt.U, Pt.locs, Pt.cells, Pt.slots] at h1 h2 h3 h4 h5 X hn hPc ⊢
  obtain ⟨m9, methY, cY, hn9, hmY, hcY, -, hlY, -⟩ := Cond.codeWith_spec h2
  cases Option.some.inj (hn9.symm.trans hn)
  obtain ⟨kY, hkY, -⟩ := className_of_methodNamed hn
  have hinitY : kY.init = .initialized := Cond.initialized_spec (findClass_of_methodNamed hn) hkY h3
  have h : At U g.method c below := by rw [hg]; exact X.here
  have hlocals9 : W9 + (maxL + 11) + (headSpec ws rm).room.locals ≤ R.locals := hlocals
  have happ : (headSpec ws rm).appliesLoose y e.platform (U.calling g mk a) = true :=
    Spec.appliesLoose_calling (g := g) h hdg hn hkY hinitY
      (X.room_calling (g := g) (R' := (headSpec ws rm).room) hsize hmY hcY hframes (by rw [hlY]; omega) h4 h5) h1
  obtain ⟨mid, hmid⟩ := h.above
  have hfr : (U.setTop g).frames = (.java g :: mid) ++ below := by rw [State.frames_setTop' g h.top, hmid]; rfl
  obtain ⟨o, s₂, hsteps, -, hend, hq⟩ := Steps.callFree hM p X.admits X.cas X.clock (acts := []) hfr happ hPc trivial
  have hq' : vx_Q Qc XC mc ms free a (U.calling g mk a) o s₂ := hq
  rw [State.frames_setTop' g h.top] at hend
  obtain ⟨g₀, hg0⟩ := Option.isSome_iff_exists.mp h.top
  obtain ⟨r, hr⟩ := State.topJava?_eq_some.mp hg0
  have hr' : (({ U with heap := s₂.heap, slotsUsed := s₂.slotsUsed } : State).setVm s₂.vm).frames = .java g₀ :: r := hr
  rcases hq' with ⟨hqc, L, hfe, hL⟩ | ⟨q, rfl, E, ce, L, hx, hce, hcv, hcl, hW₂, hsm, hL⟩
  · obtain ⟨⟨v, rfl⟩, hW₂, e2, q2, q3, q4, q5, q6⟩ := id hfe
    have e3 : s₂ = ({ (U.calling g mk a).setFrames s₂.frames with heap := s₂.heap, slotsUsed := s₂.slotsUsed } : State).setVm s₂.vm := by
      have : s₂ = ({ s₂ with vm := (U.calling g mk a).vm } : State).setVm s₂.vm := rfl
      rw [e2] at this
      exact this
    obtain ⟨c₂, i₂, len₂, hc₂, hd₂, hf₂⟩ := hend
    have hW' : U.WarmedH s₂.vm := hW₂
    have hcc : c₂ = c := by
      have h1 : s₂.code? g.method = U.code? g.method := by
        rw [State.code?_eq, State.code?_eq, hW'.alike.method?]
      exact Option.some.inj (hc₂.symm.trans (h1.trans h.code))
    subst hcc
    have hlen : len₂ = len := by rw [hdg] at hd₂; cases hd₂; rfl
    subst hlen
    have hs₂ : s₂ = (({ U with heap := s₂.heap, slotsUsed := s₂.slotsUsed } : State).setVm s₂.vm).setTop { g with pc := g.pc + len₂, stack := v.toList ++ g.stack } := by
      refine e3.trans ?_
      rw [hf₂, State.calling_eq h.top, State.setFrames_setFrames, State.setTop_of_frames _ hr', hr]
      rfl
    have hsame : U.sameButNew ({ U with heap := s₂.heap, slotsUsed := s₂.slotsUsed } : State) L mc ms := by
      refine ⟨?_, q2, q3, q4, q5, q6⟩
      obtain ⟨t, ht, -⟩ := State.frames_cons hr
      show ({ U with heap := s₂.heap, slotsUsed := s₂.slotsUsed } : State) = { U.setFrames U.frames with heap := s₂.heap, slotsUsed := s₂.slotsUsed }
      rw [State.setFrames_self ht]
    subst hg
    refine Or.inl ⟨v, ⟨(({ U with heap := s₂.heap, slotsUsed := s₂.slotsUsed } : State).setVm s₂.vm), Ls ++ L, c0 + mc, s0 + ms⟩,
      ⟨X.admits, X.cas, X.clock, X.frames, X.room, X.hears, X.method, X.code, (X.here.setHeapUsed s₂.heap s₂.slotsUsed).setVm hW'.alike, X.tail, State.WarmedH.trans X.warmed hW', X.limits, X.bytes, X.same.trans (hsame.setVm s.vm)⟩,
      ⟨g, mk, s₂, L, rfl, rfl, hqc, rfl, hL, rfl, rfl⟩, ?_⟩
    show Steps p.tables e below _ ((({ U with heap := s₂.heap, slotsUsed := s₂.slotsUsed } : State).setVm s₂.vm).setTop { g with pc := g.pc + len₂, stack := v.toList ++ g.stack })
    rw [← hs₂]
    exact hsteps
  · obtain ⟨e2, q2, q3, q4, q5, q6⟩ := id hsm
    have e3 : s₂ = ({ (U.calling g mk a).setFrames s₂.frames with heap := s₂.heap, slotsUsed := s₂.slotsUsed } : State).setVm s₂.vm := by
      have : s₂ = ({ s₂ with vm := (U.calling g mk a).vm } : State).setVm s₂.vm := rfl
      rw [e2] at this
      exact this
    have hf₂ : s₂.frames = .throwing q :: .java g :: U.frames.tail := hend
    have hW' : U.WarmedH s₂.vm := hW₂
    have hs₂ : s₂ = ((({ U with heap := s₂.heap, slotsUsed := s₂.slotsUsed } : State).setVm s₂.vm).setTop g).pushFrame (.throwing q) := by
      refine e3.trans ?_
      rw [hf₂, State.calling_eq h.top, State.setFrames_setFrames, State.pushFrame, State.frames_setTop _ hr', State.setTop_of_frames _ hr', State.setFrames_setFrames, hr]
      rfl
    have hsame : U.sameButNew ({ U with heap := s₂.heap, slotsUsed := s₂.slotsUsed } : State) L mc ms := by
      refine ⟨?_, q2, q3, q4, q5, q6⟩
      obtain ⟨t, ht, -⟩ := State.frames_cons hr
      show ({ U with heap := s₂.heap, slotsUsed := s₂.slotsUsed } : State) = { U.setFrames U.frames with heap := s₂.heap, slotsUsed := s₂.slotsUsed }
      rw [State.setFrames_self ht]
    subst hg
    refine Or.inr ⟨q, ⟨(({ U with heap := s₂.heap, slotsUsed := s₂.slotsUsed } : State).setVm s₂.vm), Ls ++ L, c0 + mc, s0 + ms⟩,
      ⟨X.admits, X.cas, X.clock, X.frames, X.room, X.hears, X.method, X.code, (X.here.setHeapUsed s₂.heap s₂.slotsUsed).setVm hW'.alike, X.tail, State.WarmedH.trans X.warmed hW', X.limits, X.bytes, X.same.trans (hsame.setVm s.vm)⟩,
      ⟨g, mk, s₂, L, E, ce, rfl, rfl, hx, hce, hcv, hcl, rfl, hL, rfl, rfl⟩, ?_⟩
    show Steps p.tables e below _ (((({ U with heap := s₂.heap, slotsUsed := s₂.slotsUsed } : State).setVm s₂.vm).setTop g).pushFrame (.throwing q))
    rw [← hs₂]
    exact hsteps
end
variable {p : Program} {l : Launch} {e : Env} {R : Room} {s : State} {m : MethodId} {args : Array Value} {below : List Frame} {meth : Method} {c : Code} {T : State} {H : Heap} {locs : List Loc} {cells slots : Nat}
theorem vx_callVX (X : Stand p l e R s m args below meth c T locs cells slots) (hexec : p.tables.exec = Jvm.exec) {own C : String} {index : Nat} {y : MethodName} {bytes : ByteArray} {maxL : Nat} {ret : Option FieldType} {hh : List (Nat × Nat × Nat × Nat)}
    (hown : s.vm.findClass own = some m.cls) (hlink : (Cond.methodLink own index y).before args s = true) (hinst : (Cond.instanceMethod y).before args s = true) (hsel : (Cond.selects C y y).before args s = true)
    (hcode : (Cond.codeWith y bytes maxL ret hh).before args s = true) (hy : y.cls ≠ "java/lang/invoke/MethodHandle" ∧ y.cls ≠ "java/lang/invoke/VarHandle")
    {W9 : Nat} {Pre : Pt → Array Value → Prop} {Post : Pt → Array Value → Option Value → Pt → Prop} {PostX : Pt → Array Value → Addr → Pt → Prop} (hK : vx_Back l R p e below s args y 3 W9 Pre Post PostX)
    {b : Addr} {cellB : Cell} (hcell : T.heap[b]? = some cellB) (hobj : cellB.vm.isStatics = false) (hcls : s.vm.findClass C = some cellB.cls)
    {g : JFrame} (hg : g.method = m) (hsize : g.locals.size = c.maxLocals) {argsL rest : List Value} (hlen : ∀ sig, parseMethodDescriptor y.desc = some sig → argsL.length = sig.parameters.length)
    (hstack : g.stack = argsL.reverse ++ .ref b :: rest) (hW : 2 * g.monitorRoom + (rest.map fun v => v.category).sum ≤ W9) (hdg : decode c.code g.pc = .ok (.invokevirtual index, 3))
    (hpre : ∀ vm₁, s.WarmedH vm₁ → Pre ⟨T.setVm vm₁, locs, cells, slots⟩ (Value.ref b :: argsL).toArray) :
    (∃ (v : Option Value) (vm₁ : Vm) (B : Pt), s.WarmedH vm₁ ∧ Stand p l e R s m args below meth c B.U B.locs B.cells B.slots ∧ Post ⟨T.setVm vm₁, locs, cells, slots⟩ (Value.ref b :: argsL).toArray v B ∧
      ∀ target, Steps p.tables e below (B.U.setTop { g with pc := g.pc + 3, stack := v.toList ++ rest }) target → Steps p.tables e below (T.setTop g) target) ∨
    (∃ (q : Addr) (vm₁ : Vm) (B : Pt), s.WarmedH vm₁ ∧ Stand p l e R s m args below meth c B.U B.locs B.cells B.slots ∧ PostX ⟨T.setVm vm₁, locs, cells, slots⟩ (Value.ref b :: argsL).toArray q B ∧
      Steps p.tables e below (T.setTop g) ((B.U.setTop { g with stack := rest }).pushFrame (.throwing q))) := by
  obtain ⟨mk, methM, hnamed, hmethM, hstM, habM⟩ := Cond.instanceMethod_spec hinst
  obtain ⟨m8, methM', cM, hn8, hmethM', -, -, -, -, -, -, hsigM⟩ := Cond.codeWith_spec hcode
  cases Option.some.inj (hn8.symm.trans hnamed)
  cases hmethM.symm.trans hmethM'
  obtain ⟨c2, r2, m2, q1, q2, q3, q4, kP, hkP, hkPi⟩ := Cond.selects_spec hsel
  cases hcls.symm.trans q1
  cases (State.methodFound?_of_named hnamed hy).symm.trans q2
  cases hnamed.symm.trans q3
  have hselP : selectMethod e.platform s.vm cellB.cls mk = .method mk := by rw [Launch.admits_selectMethod X.admits]; exact q4
  obtain ⟨vm₁, X₁, hstep₁⟩ := X.invokevirtual hexec hown hlink hnamed hmethM hstM hkP hkPi hy (a := b) (cell := cellB) hcell
    (fun z h => by rw [h] at hobj; cases hobj) hselP hmethM habM hkP hkPi (g := g) hg (argsL := argsL) (rest := rest) (hlen _ hsigM) hstack hdg
  rcases hK m meth c ⟨T.setVm vm₁, locs, cells, slots⟩ { g with stack := rest } (.invokevirtual index) mk (Value.ref b :: argsL).toArray X₁ hg hsize hdg hW (X₁.named hnamed) (hpre vm₁ X₁.warmed) with ⟨v, B, X', hpost, hsteps⟩ | ⟨q, B, X', hpost, hsteps⟩
  · exact Or.inl ⟨v, vm₁, B, X₁.warmed, X', hpost, fun target h => hstep₁ _ fun acts => by rw [doInvoke_state]; exact hsteps.trans h⟩
  · exact Or.inr ⟨q, vm₁, B, X₁.warmed, X', hpost, hstep₁ _ fun acts => by rw [doInvoke_state]; exact hsteps⟩
theorem vx_callSX (X : Stand p l e R s m args below meth c T locs cells slots) (hexec : p.tables.exec = Jvm.exec) {own : String} {index : Nat} {y : MethodName} {bytes : ByteArray} {maxL : Nat} {ret : Option FieldType} {hh : List (Nat × Nat × Nat × Nat)}
    (hown : s.vm.findClass own = some m.cls) (hlink : (Cond.methodLink own index y).before args s = true) (hstat : (Cond.static y).before args s = true) (hinit : (Cond.initialized y.cls).before args s = true)
    (hcode : (Cond.codeWith y bytes maxL ret hh).before args s = true) (hy : y.cls ≠ "java/lang/invoke/MethodHandle" ∧ y.cls ≠ "java/lang/invoke/VarHandle")
    {W9 : Nat} {Pre : Pt → Array Value → Prop} {Post : Pt → Array Value → Option Value → Pt → Prop} {PostX : Pt → Array Value → Addr → Pt → Prop} (hK : vx_Back l R p e below s args y 3 W9 Pre Post PostX)
    {g : JFrame} (hg : g.method = m) (hsize : g.locals.size = c.maxLocals) {argsL rest : List Value} (hlen : ∀ sig, parseMethodDescriptor y.desc = some sig → argsL.length = sig.parameters.length)
    (hstack : g.stack = argsL.reverse ++ rest) (hW : 2 * g.monitorRoom + (rest.map fun v => v.category).sum ≤ W9) (hdg : decode c.code g.pc = .ok (.invokestatic index, 3))
    (hpre : ∀ vm₁, s.WarmedH vm₁ → Pre ⟨T.setVm vm₁, locs, cells, slots⟩ argsL.toArray) :
    (∃ (v : Option Value) (vm₁ : Vm) (B : Pt), s.WarmedH vm₁ ∧ Stand p l e R s m args below meth c B.U B.locs B.cells B.slots ∧ Post ⟨T.setVm vm₁, locs, cells, slots⟩ argsL.toArray v B ∧
      ∀ target, Steps p.tables e below (B.U.setTop { g with pc := g.pc + 3, stack := v.toList ++ rest }) target → Steps p.tables e below (T.setTop g) target) ∨
    (∃ (q : Addr) (vm₁ : Vm) (B : Pt), s.WarmedH vm₁ ∧ Stand p l e R s m args below meth c B.U B.locs B.cells B.slots ∧ PostX ⟨T.setVm vm₁, locs, cells, slots⟩ argsL.toArray q B ∧
      Steps p.tables e below (T.setTop g) ((B.U.setTop { g with stack := rest }).pushFrame (.throwing q))) := by
  obtain ⟨mk, methM, cM, hnamed, hmethM, -, -, -, -, -, -, hsigM⟩ := Cond.codeWith_spec hcode
  have hstatic : methM.isStatic = true := Cond.static_spec hnamed hmethM hstat
  obtain ⟨kP, hkP, -⟩ := className_of_methodNamed hnamed
  have hinitP : kP.init = .initialized := Cond.initialized_spec (findClass_of_methodNamed hnamed) hkP hinit
  obtain ⟨vm₁, X₁, hstep₁⟩ := X.invokestatic hexec hown hlink hnamed hmethM hstatic hkP hinitP hy (g := g) hg (argsL := argsL) (rest := rest) (hlen _ hsigM) hstack hdg
  rcases hK m meth c ⟨T.setVm vm₁, locs, cells, slots⟩ { g with stack := rest } (.invokestatic index) mk argsL.toArray X₁ hg hsize hdg hW (X₁.named hnamed) (hpre vm₁ X₁.warmed) with ⟨v, B, X', hpost, hsteps⟩ | ⟨q, B, X', hpost, hsteps⟩
  · exact Or.inl ⟨v, vm₁, B, X₁.warmed, X', hpost, fun target h => hstep₁ _ fun acts => by rw [doInvoke_state]; exact hsteps.trans h⟩
  · exact Or.inr ⟨q, vm₁, B, X₁.warmed, X', hpost, hstep₁ _ fun acts => by rw [doInvoke_state]; exact hsteps⟩
theorem vx_callVW (X : Stand p l e R s m args below meth c T locs cells slots) (hexec : p.tables.exec = Jvm.exec) {own C : String} {index : Nat} {y : MethodName} {bytes : ByteArray} {maxL : Nat} {ret : Option FieldType} {hh : List (Nat × Nat × Nat × Nat)}
    (hown : s.vm.findClass own = some m.cls) (hlink : (Cond.methodLink own index y).before args s = true) (hinst : (Cond.instanceMethod y).before args s = true) (hsel : (Cond.selects C y y).before args s = true)
    (hcode : (Cond.codeWith y bytes maxL ret hh).before args s = true) (hy : y.cls ≠ "java/lang/invoke/MethodHandle" ∧ y.cls ≠ "java/lang/invoke/VarHandle")
    {W9 : Nat} {Pre : Pt → Array Value → Prop} {Post : Pt → Array Value → Option Value → Pt → Prop} (hK : Back l R p e below s args y 3 W9 Pre Post)
    {b : Addr} {cellB : Cell} (hcell : T.heap[b]? = some cellB) (hobj : cellB.vm.isStatics = false) (hcls : s.vm.findClass C = some cellB.cls)
    {g : JFrame} (hg : g.method = m) (hsize : g.locals.size = c.maxLocals) {argsL rest : List Value} (hlen : ∀ sig, parseMethodDescriptor y.desc = some sig → argsL.length = sig.parameters.length)
    (hstack : g.stack = argsL.reverse ++ .ref b :: rest) (hW : 2 * g.monitorRoom + (rest.map fun v => v.category).sum ≤ W9) (hdg : decode c.code g.pc = .ok (.invokevirtual index, 3))
    (hpre : ∀ vm₁, s.WarmedH vm₁ → Pre ⟨T.setVm vm₁, locs, cells, slots⟩ (Value.ref b :: argsL).toArray) :
    ∃ (v : Option Value) (vm₁ : Vm) (B : Pt), s.WarmedH vm₁ ∧ Stand p l e R s m args below meth c B.U B.locs B.cells B.slots ∧ Post ⟨T.setVm vm₁, locs, cells, slots⟩ (Value.ref b :: argsL).toArray v B ∧
      ∀ target, Steps p.tables e below (B.U.setTop { g with pc := g.pc + 3, stack := v.toList ++ rest }) target → Steps p.tables e below (T.setTop g) target := by
  obtain ⟨mk, methM, hnamed, hmethM, hstM, habM⟩ := Cond.instanceMethod_spec hinst
  obtain ⟨m8, methM', cM, hn8, hmethM', -, -, -, -, -, -, hsigM⟩ := Cond.codeWith_spec hcode
  cases Option.some.inj (hn8.symm.trans hnamed)
  cases hmethM.symm.trans hmethM'
  obtain ⟨c2, r2, m2, q1, q2, q3, q4, kP, hkP, hkPi⟩ := Cond.selects_spec hsel
  cases hcls.symm.trans q1
  cases (State.methodFound?_of_named hnamed hy).symm.trans q2
  cases hnamed.symm.trans q3
  have hselP : selectMethod e.platform s.vm cellB.cls mk = .method mk := by rw [Launch.admits_selectMethod X.admits]; exact q4
  obtain ⟨vm₁, X₁, hstep₁⟩ := X.invokevirtual hexec hown hlink hnamed hmethM hstM hkP hkPi hy (a := b) (cell := cellB) hcell
    (fun z h => by rw [h] at hobj; cases hobj) hselP hmethM habM hkP hkPi (g := g) hg (argsL := argsL) (rest := rest) (hlen _ hsigM) hstack hdg
  obtain ⟨v, B, X', hpost, hsteps⟩ := hK m meth c ⟨T.setVm vm₁, locs, cells, slots⟩ { g with stack := rest } (.invokevirtual index) mk (Value.ref b :: argsL).toArray X₁ hg hsize hdg hW (X₁.named hnamed) (hpre vm₁ X₁.warmed)
  exact ⟨v, vm₁, B, X₁.warmed, X', hpost, fun target h => hstep₁ _ fun acts => by rw [doInvoke_state]; exact hsteps.trans h⟩
abbrev vx_CVW (R : Room) (s : State) (args : Array Value) (own C : String) (index : Nat) (y : MethodName) (bytes : ByteArray) (maxL : Nat) (ret : Option FieldType) (hh : List (Nat × Nat × Nat × Nat)) (ws : List Cond) (rm : Room) (mc ms n : Nat) : Prop :=
  (rm.cells = mc ∧ rm.slots = ms ∧ rm.frames + 1 ≤ R.frames ∧ 8 + (maxL + 11) + rm.locals ≤ R.locals ∧ (∀ w ∈ ws, ∀ (a' : Array Value) (U : State), s.WarmedH U.vm → w.before a' U = true) ∧ Cond.codeWith y bytes maxL ret hh ∈ ws) ∧
  (Cond.codeWith y bytes maxL ret hh).before args s = true ∧ (Cond.initialized y.cls).before args s = true ∧ (y.cls ≠ "java/lang/invoke/MethodHandle" ∧ y.cls ≠ "java/lang/invoke/VarHandle") ∧
  (∀ sig, parseMethodDescriptor y.desc = some sig → n = sig.parameters.length) ∧ (Cond.methodLink own index y).before args s = true ∧ (Cond.instanceMethod y).before args s = true ∧ (Cond.selects C y y).before args s = true
theorem vx_cwVW {own C : String} {index maxL mc ms : Nat} {y : MethodName} {bytes : ByteArray} {ret : Option FieldType} {hh : List (Nat × Nat × Nat × Nat)} {Ts ws ws' : List Cond} {rm : Room} (n : Nat) (ht : ∀ w ∈ Ts, w.before args s = true) (hT : GoodIn Ts (wsV own index C y ws)) (hw : ws = Cond.codeWith y bytes maxL ret hh :: ws') (hrc : rm.cells = mc) (hrs : rm.slots = ms)
    (hd : y.cls = C ∧ y.cls ≠ "java/lang/invoke/MethodHandle" ∧ y.cls ≠ "java/lang/invoke/VarHandle" ∧ (parseMethodDescriptor y.desc).map (fun d => d.parameters.length) = some n) (hR : rm.frames + 1 ≤ R.frames ∧ 8 + (maxL + 11) + rm.locals ≤ R.locals) :
    vx_CVW R s args own C index y bytes maxL ret hh ws rm mc ms n := by
  obtain ⟨hC, hd⟩ := hd
  subst hC
  have ok : ∀ w ∈ wsV own index y.cls y ws, w.before args s = true := fun w h => ht w (hT w h).1
  have hG : GoodIn Ts ws := fun w h => hT w (by unfold wsV; exact List.mem_append_right _ h)
  have hc : Cond.codeWith y bytes maxL ret hh ∈ ws := by rw [hw]; exact List.mem_cons_self
  refine ⟨⟨hrc, hrs, hR.1, hR.2, pay_in ht hG, hc⟩, ht _ (hG _ hc).1, ok _ (by simp [wsV]), ⟨hd.1, hd.2.1⟩, fun sig h => ?_, ok _ (by simp [wsV]), ok _ (by simp [wsV]), ok _ (by simp [wsV])⟩
  have h2 := hd.2.2
  rw [h] at h2
  exact (Option.some.inj h2).symm
theorem vx_runVW {y : MethodName} {bytes cc : ByteArray} {maxL nL mc ms n index : Nat} {ret : Option FieldType} {hh : List (Nat × Nat × Nat × Nat)} {ws : List Cond} {rm : Room} {Pc : Array Value → State → Prop} {Qc : Array Value → State → Outcome → State → Prop} {free : Addr → Prop} {Ts : List Cond} {own C : String} {b : Addr} {As rest : List Value} {g : JFrame}
    (S : CallFix p m c cc nL s args Ts own) (hM : Met l y ws rm Pc Qc mc ms free) (cw : vx_CVW R s args own C index y bytes maxL ret hh ws rm mc ms n) (hp : PreV s H C b Pc As)
    (hg : g.method = m) (hn : As.length = n) (hsize : g.locals.size = nL) (hstack : g.stack = As.reverse ++ .ref b :: rest) (hW : 2 * g.monitorRoom + (rest.map fun v => v.category).sum ≤ 8) (hdg : decode cc g.pc = .ok (.invokevirtual index, 3)) (hf : cells + mc ≤ R.cells ∧ slots + ms ≤ R.slots) :
    va_Run p l e R s m args below meth c H locs cells slots mc ms g rest (Qc (Value.ref b :: As).toArray) free := by
  obtain ⟨⟨hrc, hrs, hfr, hlo, hws, hcw⟩, hcode, hini, hy, hlen, hl, hin, hse⟩ := cw
  have hK : Back l R p e below s args y 3 8 (PreOf R mc ms Pc) (PostOf Qc mc ms free) := va_backW (hh := hh) (bytes := bytes) (maxL := maxL) (ret := ret) hM hp.1 hrc hrs hfr hlo hws hcw (fun a' U hW => word_at hW (Or.inl (by first | rfl | simp [Cond.onTables, Cond.keeps, Cond.steady])) hini)
  obtain ⟨hx, hb, hml, ho, -⟩ := S
  obtain ⟨-, ⟨cellB, hcB, hoB, hclB⟩, hPc⟩ := hp
  intro T hT X
  obtain ⟨v, vm₁, ⟨U', l2, c2, s2⟩, hW₁, X', ⟨g', mk, t, L, e1, e2, hq, h1, hL, h2, h3⟩, st⟩ := vx_callVW X hx (C := C) (hh := hh) (bytes := bytes) (maxL := maxL) (ret := ret) ho hl hin hse hcode hy hK (by rw [hT]; exact hcB) hoB hclB hg (hsize.trans hml.symm) (argsL := As) (rest := rest) (fun sig h => hn.trans (hlen sig h)) hstack hW (by rw [hb]; exact hdg)
    (fun vm₁ hW₁ => ⟨hf.1, hf.2, hPc (T.setVm vm₁) hT hW₁⟩)
  dsimp only [Pt.U, Pt.locs, Pt.cells, Pt.slots] at X' e1 e2 h1 h2 h3 st
  subst h1; subst h2; subst h3
  exact ⟨v, (T.setVm vm₁).calling g' mk (Value.ref b :: As).toArray, t, U', L, hT, X', hL, e1, e2, hq, st⟩
section
variable {y : MethodName} {bytes cc : ByteArray} {maxL nL mc ms n index : Nat} {ret : Option FieldType} {ws : List Cond} {rm : Room} {Pc : Array Value → State → Prop} {Qc : Array Value → State → Outcome → State → Prop} {XC : String → State → State → Prop} {free : Addr → Prop} {Ts : List Cond} {own C : String} {b : Addr} {As rest : List Value} {g : JFrame}
theorem vx_runVX {hh : List (Nat × Nat × Nat × Nat)} (S : CallFix p m c cc nL s args Ts own) (hM : vx_Met l y ws rm Pc Qc XC mc ms free) (cw : vx_CVW R s args own C index y bytes maxL ret hh ws rm mc ms n) (hp : PreV s H C b Pc As)
    (hg : g.method = m) (hn : As.length = n) (hsize : g.locals.size = nL) (hstack : g.stack = As.reverse ++ .ref b :: rest) (hW : 2 * g.monitorRoom + (rest.map fun v => v.category).sum ≤ 8) (hdg : decode cc g.pc = .ok (.invokevirtual index, 3)) (hf : cells + mc ≤ R.cells ∧ slots + ms ≤ R.slots) :
    vx_Run p l e R s m args below meth c H locs cells slots mc ms g rest (Qc (Value.ref b :: As).toArray) XC free := by
  obtain ⟨⟨hrc, hrs, hfr, hlo, hws, hcw⟩, hcode, hini, hy, hlen, hl, hin, hse⟩ := cw
  have hK : vx_Back l R p e below s args y 3 8 (PreOf R mc ms Pc) (PostOf Qc mc ms free) (vx_Post XC mc ms free) := vx_backW (hh := hh) (bytes := bytes) (maxL := maxL) (ret := ret) hM hp.1 hrc hrs hfr hlo hws hcw (fun a' U hW => word_at hW (Or.inl (by first | rfl | simp [Cond.onTables, Cond.keeps, Cond.steady])) hini)
  obtain ⟨hx, hb, hml, ho, -⟩ := S
  obtain ⟨-, ⟨cellB, hcB, hoB, hclB⟩, hPc⟩ := hp
  intro T hT X
  rcases vx_callVX X hx (C := C) (hh := hh) (bytes := bytes) (maxL := maxL) (ret := ret) ho hl hin hse hcode hy hK (by rw [hT]; exact hcB) hoB hclB hg (hsize.trans hml.symm) (argsL := As) (rest := rest) (fun sig h => hn.trans (hlen sig h)) hstack hW (by rw [hb]; exact hdg)
    (fun vm₁ hW₁ => ⟨hf.1, hf.2, hPc (T.setVm vm₁) hT hW₁⟩) with ⟨v, vm₁, ⟨U', l2, c2, s2⟩, hW₁, X', ⟨g', mk, t, L, e1, e2, hq, h1, hL, h2, h3⟩, st⟩ | ⟨q, vm₁, ⟨U', l2, c2, s2⟩, hW₁, X', ⟨g', mk, t, L, E, ce, e1, e2, hq, hce, hcv, hcl, h1, hL, h2, h3⟩, st⟩
  · dsimp only [Pt.U, Pt.locs, Pt.cells, Pt.slots] at X' e1 e2 h1 h2 h3 st
    subst h1; subst h2; subst h3
    exact Or.inl ⟨v, (T.setVm vm₁).calling g' mk (Value.ref b :: As).toArray, t, U', L, hT, X', hL, e1, e2, hq, st⟩
  · dsimp only [Pt.U, Pt.locs, Pt.cells, Pt.slots] at X' e1 e2 h1 h2 h3 st hcl
    subst h1; subst h2; subst h3
    exact Or.inr ⟨q, (T.setVm vm₁).calling g' mk (Value.ref b :: As).toArray, t, U', L, E, ce, hT, X', hL, e1, e2, hq, hce, hcv, vx_cls hW₁ hcl, st⟩
theorem vx_runSX {hh : List (Nat × Nat × Nat × Nat)} (S : CallFix p m c cc nL s args Ts own) (hM : vx_Met l y ws rm Pc Qc XC mc ms free) (cw : vx_CSW R s args own index y bytes maxL ret hh ws rm mc ms n) (hp : PreS s H Pc As)
    (hg : g.method = m) (hn : As.length = n) (hsize : g.locals.size = nL) (hstack : g.stack = As.reverse ++ rest) (hW : 2 * g.monitorRoom + (rest.map fun v => v.category).sum ≤ 8) (hdg : decode cc g.pc = .ok (.invokestatic index, 3)) (hf : cells + mc ≤ R.cells ∧ slots + ms ≤ R.slots) :
    vx_Run p l e R s m args below meth c H locs cells slots mc ms g rest (Qc As.toArray) XC free := by
  obtain ⟨⟨hrc, hrs, hfr, hlo, hws, hcw⟩, hcode, hini, hy, hlen, hl, hstt⟩ := cw
  have hK : vx_Back l R p e below s args y 3 8 (PreOf R mc ms Pc) (PostOf Qc mc ms free) (vx_Post XC mc ms free) := vx_backW (hh := hh) (bytes := bytes) (maxL := maxL) (ret := ret) hM hp.1 hrc hrs hfr hlo hws hcw (fun a' U hW => word_at hW (Or.inl (by first | rfl | simp [Cond.onTables, Cond.keeps, Cond.steady])) hini)
  obtain ⟨hx, hb, hml, ho, -⟩ := S
  intro T hT X
  rcases vx_callSX X hx (hh := hh) (bytes := bytes) (maxL := maxL) (ret := ret) ho hl hstt hini hcode hy hK hg (hsize.trans hml.symm) (argsL := As) (rest := rest) (fun sig h => hn.trans (hlen sig h)) hstack hW (by rw [hb]; exact hdg)
    (fun vm₁ hW₁ => ⟨hf.1, hf.2, hp.2 (T.setVm vm₁) hT hW₁⟩) with ⟨v, vm₁, ⟨U', l2, c2, s2⟩, hW₁, X', ⟨g', mk, t, L, e1, e2, hq, h1, hL, h2, h3⟩, st⟩ | ⟨q, vm₁, ⟨U', l2, c2, s2⟩, hW₁, X', ⟨g', mk, t, L, E, ce, e1, e2, hq, hce, hcv, hcl, h1, hL, h2, h3⟩, st⟩
  · dsimp only [Pt.U, Pt.locs, Pt.cells, Pt.slots] at X' e1 e2 h1 h2 h3 st
    subst h1; subst h2; subst h3
    exact Or.inl ⟨v, (T.setVm vm₁).calling g' mk As.toArray, t, U', L, hT, X', hL, e1, e2, hq, st⟩
  · dsimp only [Pt.U, Pt.locs, Pt.cells, Pt.slots] at X' e1 e2 h1 h2 h3 st hcl
    subst h1; subst h2; subst h3
    exact Or.inr ⟨q, (T.setVm vm₁).calling g' mk As.toArray, t, U', L, E, ce, hT, X', hL, e1, e2, hq, hce, hcv, vx_cls hW₁ hcl, st⟩
end
end VXH
theorem vx_ofWH {l : Launch} {y : MethodName} {ws ws' : List Cond} {rm : Room} {Pc : Array Value → State → Prop} {Qc : Array Value → State → Outcome → State → Prop} {XC : String → State → State → Prop} {mc ms : Nat} {free : Addr → Prop} {cc : ByteArray} {maxL : Nat} {ret : Option FieldType} {hh : List (Nat × Nat × Nat × Nat)}
    (hy : plainName y.cls = true) (hw : ws = Cond.codeWith y cc maxL ret hh :: ws')
    (body : ∀ p e s m args below meth c s₁, BodyLoose p l y (headSpec ws rm) cc maxL ret e s m args below meth c s₁ → c.maxLocals = maxL → Pc args s →
      W p l e (headSpec ws rm).room s m args below meth c s.heap [] 0 0 (vx_MQ below Qc XC args s mc ms free) (entryFrame m args maxL)) : vx_Met l y ws rm Pc Qc XC mc ms free := by
  refine MetFree.of_bodyS (code := cc) (maxLocals := maxL) (ret := ret) hy ?_ ?_
  · intro args s m h hn
    obtain ⟨m9, meth, c, hn9, h1, h2, h3, h4, -, h5, h6, -⟩ := Cond.codeWith_spec (atoms_spec (ws := ws) h _ (by rw [hw]; exact List.mem_cons_self))
    cases hn.symm.trans hn9
    exact ⟨meth, c, h1, h2, h3, h4, h5, h6⟩
  · intro p e s m args below meth c s₁ B hml hP _
    have hh0 : s₁.heap = s.heap := by rw [B.state]; rfl
    obtain ⟨t, a1, o, b1, b2, b3⟩ := body p e s m args below meth c s₁ B hml hP s₁ hh0 (Stand.of_body B)
    exact ⟨t, o, a1, b1, b2, b3⟩
/-! ===== END ===== -/
end
section
theorem dX0_init_0 : decode cX0_init 0 = .ok (.aload_n 0, 1) := by decide +kernel
theorem dX0_init_1 : decode cX0_init 1 = .ok (.invokespecial 3, 3) := by decide +kernel
theorem dX0_init_4 : decode cX0_init 4 = .ok (.aload_n 0, 1) := by decide +kernel
theorem dX0_init_5 : decode cX0_init 5 = .ok (.iconst (-1), 1) := by decide +kernel
theorem dX0_init_6 : decode cX0_init 6 = .ok (.putfield 9, 3) := by decide +kernel
theorem dX0_init_9 : decode cX0_init 9 = .ok (.return_, 1) := by decide +kernel
theorem dX0_copyFrom_0 : decode cX0_copyFrom 0 = .ok (.aload_n 0, 1) := by decide +kernel
theorem dX0_copyFrom_1 : decode cX0_copyFrom 1 = .ok (.aload_n 1, 1) := by decide +kernel
theorem dX0_copyFrom_2 : decode cX0_copyFrom 2 = .ok (.getfield 9, 3) := by decide +kernel
theorem dX0_copyFrom_5 : decode cX0_copyFrom 5 = .ok (.putfield 9, 3) := by decide +kernel
theorem dX0_copyFrom_8 : decode cX0_copyFrom 8 = .ok (.aload_n 0, 1) := by decide +kernel
theorem dX0_copyFrom_9 : decode cX0_copyFrom 9 = .ok (.aload_n 1, 1) := by decide +kernel
theorem dX0_copyFrom_10 : decode cX0_copyFrom 10 = .ok (.getfield 15, 3) := by decide +kernel
theorem dX0_copyFrom_13 : decode cX0_copyFrom 13 = .ok (.putfield 15, 3) := by decide +kernel
theorem dX0_copyFrom_16 : decode cX0_copyFrom 16 = .ok (.aload_n 0, 1) := by decide +kernel
theorem dX0_copyFrom_17 : decode cX0_copyFrom 17 = .ok (.aload_n 1, 1) := by decide +kernel
theorem dX0_copyFrom_18 : decode cX0_copyFrom 18 = .ok (.getfield 18, 3) := by decide +kernel
theorem dX0_copyFrom_21 : decode cX0_copyFrom 21 = .ok (.putfield 18, 3) := by decide +kernel
theorem dX0_copyFrom_24 : decode cX0_copyFrom 24 = .ok (.aload_n 0, 1) := by decide +kernel
theorem dX0_copyFrom_25 : decode cX0_copyFrom 25 = .ok (.aload_n 1, 1) := by decide +kernel
theorem dX0_copyFrom_26 : decode cX0_copyFrom 26 = .ok (.getfield 21, 3) := by decide +kernel
theorem dX0_copyFrom_29 : decode cX0_copyFrom 29 = .ok (.putfield 21, 3) := by decide +kernel
theorem dX0_copyFrom_32 : decode cX0_copyFrom 32 = .ok (.return_, 1) := by decide +kernel
theorem dX0_property_0 : decode cX0_property 0 = .ok (.aload_n 0, 1) := by decide +kernel
theorem dX0_property_1 : decode cX0_property 1 = .ok (.getfield 9, 3) := by decide +kernel
theorem dX0_property_4 : decode cX0_property 4 = .ok (.iconst (-1), 1) := by decide +kernel
theorem dX0_property_5 : decode cX0_property 5 = .ok (.if_icmp .ne 5, 3) := by decide +kernel
theorem dX0_property_8 : decode cX0_property 8 = .ok (.iconst (-1), 1) := by decide +kernel
theorem dX0_property_9 : decode cX0_property 9 = .ok (.ireturn, 1) := by decide +kernel
theorem dX0_property_10 : decode cX0_property 10 = .ok (.iload_n 1, 1) := by decide +kernel
theorem dX0_property_11 : decode cX0_property 11 = .ok (.tableswitch 40 0 2 #[25, 30, 35], 25) := by decide +kernel
theorem dX0_property_36 : decode cX0_property 36 = .ok (.aload_n 0, 1) := by decide +kernel
theorem dX0_property_37 : decode cX0_property 37 = .ok (.getfield 9, 3) := by decide +kernel
theorem dX0_property_40 : decode cX0_property 40 = .ok (.ireturn, 1) := by decide +kernel
theorem dX0_property_41 : decode cX0_property 41 = .ok (.aload_n 0, 1) := by decide +kernel
theorem dX0_property_42 : decode cX0_property 42 = .ok (.getfield 15, 3) := by decide +kernel
theorem dX0_property_45 : decode cX0_property 45 = .ok (.ireturn, 1) := by decide +kernel
theorem dX0_property_46 : decode cX0_property 46 = .ok (.aload_n 0, 1) := by decide +kernel
theorem dX0_property_47 : decode cX0_property 47 = .ok (.getfield 18, 3) := by decide +kernel
theorem dX0_property_50 : decode cX0_property 50 = .ok (.ireturn, 1) := by decide +kernel
theorem dX0_property_51 : decode cX0_property 51 = .ok (.aload_n 0, 1) := by decide +kernel
theorem dX0_property_52 : decode cX0_property 52 = .ok (.getfield 21, 3) := by decide +kernel
theorem dX0_property_55 : decode cX0_property 55 = .ok (.ireturn, 1) := by decide +kernel
theorem dX1_init_0 : decode cX1_init 0 = .ok (.aload_n 0, 1) := by decide +kernel
theorem dX1_init_1 : decode cX1_init 1 = .ok (.invokespecial 3, 3) := by decide +kernel
theorem dX1_init_4 : decode cX1_init 4 = .ok (.aload_n 0, 1) := by decide +kernel
theorem dX1_init_5 : decode cX1_init 5 = .ok (.iconst 3, 1) := by decide +kernel
theorem dX1_init_6 : decode cX1_init 6 = .ok (.putfield 9, 3) := by decide +kernel
theorem dX1_init_9 : decode cX1_init 9 = .ok (.aload_n 0, 1) := by decide +kernel
theorem dX1_init_10 : decode cX1_init 10 = .ok (.bipush 60, 2) := by decide +kernel
theorem dX1_init_12 : decode cX1_init 12 = .ok (.putfield 15, 3) := by decide +kernel
theorem dX1_init_15 : decode cX1_init 15 = .ok (.return_, 1) := by decide +kernel
theorem dX1_copyFrom_0 : decode cX1_copyFrom 0 = .ok (.aload_n 0, 1) := by decide +kernel
theorem dX1_copyFrom_1 : decode cX1_copyFrom 1 = .ok (.aload_n 1, 1) := by decide +kernel
theorem dX1_copyFrom_2 : decode cX1_copyFrom 2 = .ok (.getfield 9, 3) := by decide +kernel
theorem dX1_copyFrom_5 : decode cX1_copyFrom 5 = .ok (.putfield 9, 3) := by decide +kernel
theorem dX1_copyFrom_8 : decode cX1_copyFrom 8 = .ok (.aload_n 0, 1) := by decide +kernel
theorem dX1_copyFrom_9 : decode cX1_copyFrom 9 = .ok (.aload_n 1, 1) := by decide +kernel
theorem dX1_copyFrom_10 : decode cX1_copyFrom 10 = .ok (.getfield 15, 3) := by decide +kernel
theorem dX1_copyFrom_13 : decode cX1_copyFrom 13 = .ok (.putfield 15, 3) := by decide +kernel
theorem dX1_copyFrom_16 : decode cX1_copyFrom 16 = .ok (.aload_n 0, 1) := by decide +kernel
theorem dX1_copyFrom_17 : decode cX1_copyFrom 17 = .ok (.aload_n 1, 1) := by decide +kernel
theorem dX1_copyFrom_18 : decode cX1_copyFrom 18 = .ok (.getfield 18, 3) := by decide +kernel
theorem dX1_copyFrom_21 : decode cX1_copyFrom 21 = .ok (.putfield 18, 3) := by decide +kernel
theorem dX1_copyFrom_24 : decode cX1_copyFrom 24 = .ok (.aload_n 0, 1) := by decide +kernel
theorem dX1_copyFrom_25 : decode cX1_copyFrom 25 = .ok (.aload_n 1, 1) := by decide +kernel
theorem dX1_copyFrom_26 : decode cX1_copyFrom 26 = .ok (.getfield 21, 3) := by decide +kernel
theorem dX1_copyFrom_29 : decode cX1_copyFrom 29 = .ok (.putfield 21, 3) := by decide +kernel
theorem dX1_copyFrom_32 : decode cX1_copyFrom 32 = .ok (.aload_n 0, 1) := by decide +kernel
theorem dX1_copyFrom_33 : decode cX1_copyFrom 33 = .ok (.aload_n 1, 1) := by decide +kernel
theorem dX1_copyFrom_34 : decode cX1_copyFrom 34 = .ok (.getfield 24, 3) := by decide +kernel
theorem dX1_copyFrom_37 : decode cX1_copyFrom 37 = .ok (.putfield 24, 3) := by decide +kernel
theorem dX1_copyFrom_40 : decode cX1_copyFrom 40 = .ok (.aload_n 0, 1) := by decide +kernel
theorem dX1_copyFrom_41 : decode cX1_copyFrom 41 = .ok (.aload_n 1, 1) := by decide +kernel
theorem dX1_copyFrom_42 : decode cX1_copyFrom 42 = .ok (.getfield 27, 3) := by decide +kernel
theorem dX1_copyFrom_45 : decode cX1_copyFrom 45 = .ok (.putfield 27, 3) := by decide +kernel
theorem dX1_copyFrom_48 : decode cX1_copyFrom 48 = .ok (.return_, 1) := by decide +kernel
theorem dX1_isBeingGround_0 : decode cX1_isBeingGround 0 = .ok (.aload_n 0, 1) := by decide +kernel
theorem dX1_isBeingGround_1 : decode cX1_isBeingGround 1 = .ok (.getfield 21, 3) := by decide +kernel
theorem dX1_isBeingGround_4 : decode cX1_isBeingGround 4 = .ok (.ifCond .le 7, 3) := by decide +kernel
theorem dX1_isBeingGround_7 : decode cX1_isBeingGround 7 = .ok (.iconst 1, 1) := by decide +kernel
theorem dX1_isBeingGround_8 : decode cX1_isBeingGround 8 = .ok (.goto 4, 3) := by decide +kernel
theorem dX1_isBeingGround_11 : decode cX1_isBeingGround 11 = .ok (.iconst 0, 1) := by decide +kernel
theorem dX1_isBeingGround_12 : decode cX1_isBeingGround 12 = .ok (.ireturn, 1) := by decide +kernel
theorem dX1_isWornOut_0 : decode cX1_isWornOut 0 = .ok (.aload_n 0, 1) := by decide +kernel
theorem dX1_isWornOut_1 : decode cX1_isWornOut 1 = .ok (.getfield 18, 3) := by decide +kernel
theorem dX1_isWornOut_4 : decode cX1_isWornOut 4 = .ok (.aload_n 0, 1) := by decide +kernel
theorem dX1_isWornOut_5 : decode cX1_isWornOut 5 = .ok (.getfield 15, 3) := by decide +kernel
theorem dX1_isWornOut_8 : decode cX1_isWornOut 8 = .ok (.if_icmp .lt 7, 3) := by decide +kernel
theorem dX1_isWornOut_11 : decode cX1_isWornOut 11 = .ok (.iconst 1, 1) := by decide +kernel
theorem dX1_isWornOut_12 : decode cX1_isWornOut 12 = .ok (.goto 4, 3) := by decide +kernel
theorem dX1_isWornOut_15 : decode cX1_isWornOut 15 = .ok (.iconst 0, 1) := by decide +kernel
theorem dX1_isWornOut_16 : decode cX1_isWornOut 16 = .ok (.ireturn, 1) := by decide +kernel
theorem dX1_canForge_0 : decode cX1_canForge 0 = .ok (.aload_n 0, 1) := by decide +kernel
theorem dX1_canForge_1 : decode cX1_canForge 1 = .ok (.getfield 21, 3) := by decide +kernel
theorem dX1_canForge_4 : decode cX1_canForge 4 = .ok (.ifCond .gt 18, 3) := by decide +kernel
theorem dX1_canForge_7 : decode cX1_canForge 7 = .ok (.aload_n 0, 1) := by decide +kernel
theorem dX1_canForge_8 : decode cX1_canForge 8 = .ok (.getfield 18, 3) := by decide +kernel
theorem dX1_canForge_11 : decode cX1_canForge 11 = .ok (.aload_n 0, 1) := by decide +kernel
theorem dX1_canForge_12 : decode cX1_canForge 12 = .ok (.getfield 15, 3) := by decide +kernel
theorem dX1_canForge_15 : decode cX1_canForge 15 = .ok (.if_icmp .ge 7, 3) := by decide +kernel
theorem dX1_canForge_18 : decode cX1_canForge 18 = .ok (.iconst 1, 1) := by decide +kernel
theorem dX1_canForge_19 : decode cX1_canForge 19 = .ok (.goto 4, 3) := by decide +kernel
theorem dX1_canForge_22 : decode cX1_canForge 22 = .ok (.iconst 0, 1) := by decide +kernel
theorem dX1_canForge_23 : decode cX1_canForge 23 = .ok (.ireturn, 1) := by decide +kernel
theorem dX1_grindMinute_0 : decode cX1_grindMinute 0 = .ok (.aload_n 0, 1) := by decide +kernel
theorem dX1_grindMinute_1 : decode cX1_grindMinute 1 = .ok (.dup, 1) := by decide +kernel
theorem dX1_grindMinute_2 : decode cX1_grindMinute 2 = .ok (.getfield 21, 3) := by decide +kernel
theorem dX1_grindMinute_5 : decode cX1_grindMinute 5 = .ok (.iconst 1, 1) := by decide +kernel
theorem dX1_grindMinute_6 : decode cX1_grindMinute 6 = .ok (.isub, 1) := by decide +kernel
theorem dX1_grindMinute_7 : decode cX1_grindMinute 7 = .ok (.putfield 21, 3) := by decide +kernel
theorem dX1_grindMinute_10 : decode cX1_grindMinute 10 = .ok (.aload_n 0, 1) := by decide +kernel
theorem dX1_grindMinute_11 : decode cX1_grindMinute 11 = .ok (.getfield 21, 3) := by decide +kernel
theorem dX1_grindMinute_14 : decode cX1_grindMinute 14 = .ok (.ifCond .gt 33, 3) := by decide +kernel
theorem dX1_grindMinute_17 : decode cX1_grindMinute 17 = .ok (.aload_n 0, 1) := by decide +kernel
theorem dX1_grindMinute_18 : decode cX1_grindMinute 18 = .ok (.iconst 0, 1) := by decide +kernel
theorem dX1_grindMinute_19 : decode cX1_grindMinute 19 = .ok (.putfield 18, 3) := by decide +kernel
theorem dX1_grindMinute_22 : decode cX1_grindMinute 22 = .ok (.aload_n 0, 1) := by decide +kernel
theorem dX1_grindMinute_23 : decode cX1_grindMinute 23 = .ok (.bipush 10, 2) := by decide +kernel
theorem dX1_grindMinute_25 : decode cX1_grindMinute 25 = .ok (.aload_n 0, 1) := by decide +kernel
theorem dX1_grindMinute_26 : decode cX1_grindMinute 26 = .ok (.getfield 15, 3) := by decide +kernel
theorem dX1_grindMinute_29 : decode cX1_grindMinute 29 = .ok (.iconst 5, 1) := by decide +kernel
theorem dX1_grindMinute_30 : decode cX1_grindMinute 30 = .ok (.isub, 1) := by decide +kernel
theorem dX1_grindMinute_31 : decode cX1_grindMinute 31 = .ok (.invokestatic 30, 3) := by decide +kernel
theorem dX1_grindMinute_34 : decode cX1_grindMinute 34 = .ok (.putfield 15, 3) := by decide +kernel
theorem dX1_grindMinute_37 : decode cX1_grindMinute 37 = .ok (.aload_n 0, 1) := by decide +kernel
theorem dX1_grindMinute_38 : decode cX1_grindMinute 38 = .ok (.dup, 1) := by decide +kernel
theorem dX1_grindMinute_39 : decode cX1_grindMinute 39 = .ok (.getfield 27, 3) := by decide +kernel
theorem dX1_grindMinute_42 : decode cX1_grindMinute 42 = .ok (.iconst 1, 1) := by decide +kernel
theorem dX1_grindMinute_43 : decode cX1_grindMinute 43 = .ok (.iadd, 1) := by decide +kernel
theorem dX1_grindMinute_44 : decode cX1_grindMinute 44 = .ok (.putfield 27, 3) := by decide +kernel
theorem dX1_grindMinute_47 : decode cX1_grindMinute 47 = .ok (.return_, 1) := by decide +kernel
theorem dX1_property_0 : decode cX1_property 0 = .ok (.iload_n 1, 1) := by decide +kernel
theorem dX1_property_1 : decode cX1_property 1 = .ok (.tableswitch 60 0 4 #[35, 40, 45, 50, 55], 35) := by decide +kernel
theorem dX1_property_36 : decode cX1_property 36 = .ok (.aload_n 0, 1) := by decide +kernel
theorem dX1_property_37 : decode cX1_property 37 = .ok (.getfield 9, 3) := by decide +kernel
theorem dX1_property_40 : decode cX1_property 40 = .ok (.ireturn, 1) := by decide +kernel
theorem dX1_property_41 : decode cX1_property 41 = .ok (.aload_n 0, 1) := by decide +kernel
theorem dX1_property_42 : decode cX1_property 42 = .ok (.getfield 15, 3) := by decide +kernel
theorem dX1_property_45 : decode cX1_property 45 = .ok (.ireturn, 1) := by decide +kernel
theorem dX1_property_46 : decode cX1_property 46 = .ok (.aload_n 0, 1) := by decide +kernel
theorem dX1_property_47 : decode cX1_property 47 = .ok (.getfield 18, 3) := by decide +kernel
theorem dX1_property_50 : decode cX1_property 50 = .ok (.ireturn, 1) := by decide +kernel
theorem dX1_property_51 : decode cX1_property 51 = .ok (.aload_n 0, 1) := by decide +kernel
theorem dX1_property_52 : decode cX1_property 52 = .ok (.getfield 21, 3) := by decide +kernel
theorem dX1_property_55 : decode cX1_property 55 = .ok (.ireturn, 1) := by decide +kernel
theorem dX1_property_56 : decode cX1_property 56 = .ok (.aload_n 0, 1) := by decide +kernel
theorem dX1_property_57 : decode cX1_property 57 = .ok (.getfield 24, 3) := by decide +kernel
theorem dX1_property_60 : decode cX1_property 60 = .ok (.ireturn, 1) := by decide +kernel
theorem dX1_property_61 : decode cX1_property 61 = .ok (.aload_n 0, 1) := by decide +kernel
theorem dX1_property_62 : decode cX1_property 62 = .ok (.getfield 27, 3) := by decide +kernel
theorem dX1_property_65 : decode cX1_property 65 = .ok (.ireturn, 1) := by decide +kernel
theorem dX2_init_0 : decode cX2_init 0 = .ok (.aload_n 0, 1) := by decide +kernel
theorem dX2_init_1 : decode cX2_init 1 = .ok (.invokespecial 1, 3) := by decide +kernel
theorem dX2_init_4 : decode cX2_init 4 = .ok (.aload_n 0, 1) := by decide +kernel
theorem dX2_init_5 : decode cX2_init 5 = .ok (.sipush 900, 3) := by decide +kernel
theorem dX2_init_8 : decode cX2_init 8 = .ok (.putfield 7, 3) := by decide +kernel
theorem dX2_init_11 : decode cX2_init 11 = .ok (.aload_n 0, 1) := by decide +kernel
theorem dX2_init_12 : decode cX2_init 12 = .ok (.sipush 1100, 3) := by decide +kernel
theorem dX2_init_15 : decode cX2_init 15 = .ok (.putfield 13, 3) := by decide +kernel
theorem dX2_init_18 : decode cX2_init 18 = .ok (.return_, 1) := by decide +kernel
theorem dX2_copyFrom_0 : decode cX2_copyFrom 0 = .ok (.aload_n 0, 1) := by decide +kernel
theorem dX2_copyFrom_1 : decode cX2_copyFrom 1 = .ok (.aload_n 1, 1) := by decide +kernel
theorem dX2_copyFrom_2 : decode cX2_copyFrom 2 = .ok (.getfield 16, 3) := by decide +kernel
theorem dX2_copyFrom_5 : decode cX2_copyFrom 5 = .ok (.putfield 16, 3) := by decide +kernel
theorem dX2_copyFrom_8 : decode cX2_copyFrom 8 = .ok (.aload_n 0, 1) := by decide +kernel
theorem dX2_copyFrom_9 : decode cX2_copyFrom 9 = .ok (.aload_n 1, 1) := by decide +kernel
theorem dX2_copyFrom_10 : decode cX2_copyFrom 10 = .ok (.getfield 7, 3) := by decide +kernel
theorem dX2_copyFrom_13 : decode cX2_copyFrom 13 = .ok (.putfield 7, 3) := by decide +kernel
theorem dX2_copyFrom_16 : decode cX2_copyFrom 16 = .ok (.aload_n 0, 1) := by decide +kernel
theorem dX2_copyFrom_17 : decode cX2_copyFrom 17 = .ok (.aload_n 1, 1) := by decide +kernel
theorem dX2_copyFrom_18 : decode cX2_copyFrom 18 = .ok (.getfield 13, 3) := by decide +kernel
theorem dX2_copyFrom_21 : decode cX2_copyFrom 21 = .ok (.putfield 13, 3) := by decide +kernel
theorem dX2_copyFrom_24 : decode cX2_copyFrom 24 = .ok (.aload_n 0, 1) := by decide +kernel
theorem dX2_copyFrom_25 : decode cX2_copyFrom 25 = .ok (.aload_n 1, 1) := by decide +kernel
theorem dX2_copyFrom_26 : decode cX2_copyFrom 26 = .ok (.getfield 19, 3) := by decide +kernel
theorem dX2_copyFrom_29 : decode cX2_copyFrom 29 = .ok (.putfield 19, 3) := by decide +kernel
theorem dX2_copyFrom_32 : decode cX2_copyFrom 32 = .ok (.aload_n 0, 1) := by decide +kernel
theorem dX2_copyFrom_33 : decode cX2_copyFrom 33 = .ok (.aload_n 1, 1) := by decide +kernel
theorem dX2_copyFrom_34 : decode cX2_copyFrom 34 = .ok (.getfield 22, 3) := by decide +kernel
theorem dX2_copyFrom_37 : decode cX2_copyFrom 37 = .ok (.putfield 22, 3) := by decide +kernel
theorem dX2_copyFrom_40 : decode cX2_copyFrom 40 = .ok (.return_, 1) := by decide +kernel
theorem dX3_init_0 : decode cX3_init 0 = .ok (.aload_n 0, 1) := by decide +kernel
theorem dX3_init_1 : decode cX3_init 1 = .ok (.invokespecial 1, 3) := by decide +kernel
theorem dX3_init_4 : decode cX3_init 4 = .ok (.return_, 1) := by decide +kernel
theorem dX3_copyFrom_0 : decode cX3_copyFrom 0 = .ok (.aload_n 0, 1) := by decide +kernel
theorem dX3_copyFrom_1 : decode cX3_copyFrom 1 = .ok (.aload_n 1, 1) := by decide +kernel
theorem dX3_copyFrom_2 : decode cX3_copyFrom 2 = .ok (.getfield 7, 3) := by decide +kernel
theorem dX3_copyFrom_5 : decode cX3_copyFrom 5 = .ok (.putfield 7, 3) := by decide +kernel
theorem dX3_copyFrom_8 : decode cX3_copyFrom 8 = .ok (.aload_n 0, 1) := by decide +kernel
theorem dX3_copyFrom_9 : decode cX3_copyFrom 9 = .ok (.aload_n 1, 1) := by decide +kernel
theorem dX3_copyFrom_10 : decode cX3_copyFrom 10 = .ok (.getfield 13, 3) := by decide +kernel
theorem dX3_copyFrom_13 : decode cX3_copyFrom 13 = .ok (.putfield 13, 3) := by decide +kernel
theorem dX3_copyFrom_16 : decode cX3_copyFrom 16 = .ok (.aload_n 0, 1) := by decide +kernel
theorem dX3_copyFrom_17 : decode cX3_copyFrom 17 = .ok (.aload_n 1, 1) := by decide +kernel
theorem dX3_copyFrom_18 : decode cX3_copyFrom 18 = .ok (.getfield 16, 3) := by decide +kernel
theorem dX3_copyFrom_21 : decode cX3_copyFrom 21 = .ok (.putfield 16, 3) := by decide +kernel
theorem dX3_copyFrom_24 : decode cX3_copyFrom 24 = .ok (.aload_n 0, 1) := by decide +kernel
theorem dX3_copyFrom_25 : decode cX3_copyFrom 25 = .ok (.aload_n 1, 1) := by decide +kernel
theorem dX3_copyFrom_26 : decode cX3_copyFrom 26 = .ok (.getfield 19, 3) := by decide +kernel
theorem dX3_copyFrom_29 : decode cX3_copyFrom 29 = .ok (.putfield 19, 3) := by decide +kernel
theorem dX3_copyFrom_32 : decode cX3_copyFrom 32 = .ok (.aload_n 0, 1) := by decide +kernel
theorem dX3_copyFrom_33 : decode cX3_copyFrom 33 = .ok (.aload_n 1, 1) := by decide +kernel
theorem dX3_copyFrom_34 : decode cX3_copyFrom 34 = .ok (.getfield 22, 3) := by decide +kernel
theorem dX3_copyFrom_37 : decode cX3_copyFrom 37 = .ok (.putfield 22, 3) := by decide +kernel
theorem dX3_copyFrom_40 : decode cX3_copyFrom 40 = .ok (.aload_n 0, 1) := by decide +kernel
theorem dX3_copyFrom_41 : decode cX3_copyFrom 41 = .ok (.aload_n 1, 1) := by decide +kernel
theorem dX3_copyFrom_42 : decode cX3_copyFrom 42 = .ok (.getfield 25, 3) := by decide +kernel
theorem dX3_copyFrom_45 : decode cX3_copyFrom 45 = .ok (.putfield 25, 3) := by decide +kernel
theorem dX3_copyFrom_48 : decode cX3_copyFrom 48 = .ok (.aload_n 0, 1) := by decide +kernel
theorem dX3_copyFrom_49 : decode cX3_copyFrom 49 = .ok (.aload_n 1, 1) := by decide +kernel
theorem dX3_copyFrom_50 : decode cX3_copyFrom 50 = .ok (.getfield 28, 3) := by decide +kernel
theorem dX3_copyFrom_53 : decode cX3_copyFrom 53 = .ok (.putfield 28, 3) := by decide +kernel
theorem dX3_copyFrom_56 : decode cX3_copyFrom 56 = .ok (.aload_n 0, 1) := by decide +kernel
theorem dX3_copyFrom_57 : decode cX3_copyFrom 57 = .ok (.aload_n 1, 1) := by decide +kernel
theorem dX3_copyFrom_58 : decode cX3_copyFrom 58 = .ok (.getfield 32, 3) := by decide +kernel
theorem dX3_copyFrom_61 : decode cX3_copyFrom 61 = .ok (.putfield 32, 3) := by decide +kernel
theorem dX3_copyFrom_64 : decode cX3_copyFrom 64 = .ok (.return_, 1) := by decide +kernel
theorem dX3_comesBefore_0 : decode cX3_comesBefore 0 = .ok (.aload_n 0, 1) := by decide +kernel
theorem dX3_comesBefore_1 : decode cX3_comesBefore 1 = .ok (.getfield 28, 3) := by decide +kernel
theorem dX3_comesBefore_4 : decode cX3_comesBefore 4 = .ok (.aload_n 1, 1) := by decide +kernel
theorem dX3_comesBefore_5 : decode cX3_comesBefore 5 = .ok (.getfield 28, 3) := by decide +kernel
theorem dX3_comesBefore_8 : decode cX3_comesBefore 8 = .ok (.if_icmp .eq 8, 3) := by decide +kernel
theorem dX3_comesBefore_11 : decode cX3_comesBefore 11 = .ok (.aload_n 0, 1) := by decide +kernel
theorem dX3_comesBefore_12 : decode cX3_comesBefore 12 = .ok (.getfield 28, 3) := by decide +kernel
theorem dX3_comesBefore_15 : decode cX3_comesBefore 15 = .ok (.ireturn, 1) := by decide +kernel
theorem dX3_comesBefore_16 : decode cX3_comesBefore 16 = .ok (.aload_n 0, 1) := by decide +kernel
theorem dX3_comesBefore_17 : decode cX3_comesBefore 17 = .ok (.getfield 25, 3) := by decide +kernel
theorem dX3_comesBefore_20 : decode cX3_comesBefore 20 = .ok (.aload_n 1, 1) := by decide +kernel
theorem dX3_comesBefore_21 : decode cX3_comesBefore 21 = .ok (.getfield 25, 3) := by decide +kernel
theorem dX3_comesBefore_24 : decode cX3_comesBefore 24 = .ok (.if_icmp .eq 22, 3) := by decide +kernel
theorem dX3_comesBefore_27 : decode cX3_comesBefore 27 = .ok (.aload_n 0, 1) := by decide +kernel
theorem dX3_comesBefore_28 : decode cX3_comesBefore 28 = .ok (.getfield 25, 3) := by decide +kernel
theorem dX3_comesBefore_31 : decode cX3_comesBefore 31 = .ok (.aload_n 1, 1) := by decide +kernel
theorem dX3_comesBefore_32 : decode cX3_comesBefore 32 = .ok (.getfield 25, 3) := by decide +kernel
theorem dX3_comesBefore_35 : decode cX3_comesBefore 35 = .ok (.if_icmp .ge 7, 3) := by decide +kernel
theorem dX3_comesBefore_38 : decode cX3_comesBefore 38 = .ok (.iconst 1, 1) := by decide +kernel
theorem dX3_comesBefore_39 : decode cX3_comesBefore 39 = .ok (.goto 23, 3) := by decide +kernel
theorem dX3_comesBefore_42 : decode cX3_comesBefore 42 = .ok (.iconst 0, 1) := by decide +kernel
theorem dX3_comesBefore_43 : decode cX3_comesBefore 43 = .ok (.goto 19, 3) := by decide +kernel
theorem dX3_comesBefore_46 : decode cX3_comesBefore 46 = .ok (.aload_n 0, 1) := by decide +kernel
theorem dX3_comesBefore_47 : decode cX3_comesBefore 47 = .ok (.getfield 7, 3) := by decide +kernel
theorem dX3_comesBefore_50 : decode cX3_comesBefore 50 = .ok (.aload_n 1, 1) := by decide +kernel
theorem dX3_comesBefore_51 : decode cX3_comesBefore 51 = .ok (.getfield 7, 3) := by decide +kernel
theorem dX3_comesBefore_54 : decode cX3_comesBefore 54 = .ok (.if_icmp .ge 7, 3) := by decide +kernel
theorem dX3_comesBefore_57 : decode cX3_comesBefore 57 = .ok (.iconst 1, 1) := by decide +kernel
theorem dX3_comesBefore_58 : decode cX3_comesBefore 58 = .ok (.goto 4, 3) := by decide +kernel
theorem dX3_comesBefore_61 : decode cX3_comesBefore 61 = .ok (.iconst 0, 1) := by decide +kernel
theorem dX3_comesBefore_62 : decode cX3_comesBefore 62 = .ok (.ireturn, 1) := by decide +kernel
theorem dX3_lack_0 : decode cX3_lack 0 = .ok (.aload_n 0, 1) := by decide +kernel
theorem dX3_lack_1 : decode cX3_lack 1 = .ok (.getfield 19, 3) := by decide +kernel
theorem dX3_lack_4 : decode cX3_lack 4 = .ok (.aload_n 0, 1) := by decide +kernel
theorem dX3_lack_5 : decode cX3_lack 5 = .ok (.getfield 22, 3) := by decide +kernel
theorem dX3_lack_8 : decode cX3_lack 8 = .ok (.isub, 1) := by decide +kernel
theorem dX3_lack_9 : decode cX3_lack 9 = .ok (.aload_n 0, 1) := by decide +kernel
theorem dX3_lack_10 : decode cX3_lack 10 = .ok (.getfield 32, 3) := by decide +kernel
theorem dX3_lack_13 : decode cX3_lack 13 = .ok (.isub, 1) := by decide +kernel
theorem dX3_lack_14 : decode cX3_lack 14 = .ok (.ireturn, 1) := by decide +kernel
theorem dX4_init_0 : decode cX4_init 0 = .ok (.aload_n 0, 1) := by decide +kernel
theorem dX4_init_1 : decode cX4_init 1 = .ok (.invokespecial 3, 3) := by decide +kernel
theorem dX4_init_4 : decode cX4_init 4 = .ok (.aload_n 0, 1) := by decide +kernel
theorem dX4_init_5 : decode cX4_init 5 = .ok (.bipush 60, 2) := by decide +kernel
theorem dX4_init_7 : decode cX4_init 7 = .ok (.newarray .char, 2) := by decide +kernel
theorem dX4_init_9 : decode cX4_init 9 = .ok (.putfield 11, 3) := by decide +kernel
theorem dX4_init_12 : decode cX4_init 12 = .ok (.return_, 1) := by decide +kernel
theorem dX4_isFull_0 : decode cX4_isFull 0 = .ok (.aload_n 0, 1) := by decide +kernel
theorem dX4_isFull_1 : decode cX4_isFull 1 = .ok (.getfield 15, 3) := by decide +kernel
theorem dX4_isFull_4 : decode cX4_isFull 4 = .ok (.aload_n 0, 1) := by decide +kernel
theorem dX4_isFull_5 : decode cX4_isFull 5 = .ok (.getfield 11, 3) := by decide +kernel
theorem dX4_isFull_8 : decode cX4_isFull 8 = .ok (.arraylength, 1) := by decide +kernel
theorem dX4_isFull_9 : decode cX4_isFull 9 = .ok (.if_icmp .lt 7, 3) := by decide +kernel
theorem dX4_isFull_12 : decode cX4_isFull 12 = .ok (.iconst 1, 1) := by decide +kernel
theorem dX4_isFull_13 : decode cX4_isFull 13 = .ok (.goto 4, 3) := by decide +kernel
theorem dX4_isFull_16 : decode cX4_isFull 16 = .ok (.iconst 0, 1) := by decide +kernel
theorem dX4_isFull_17 : decode cX4_isFull 17 = .ok (.ireturn, 1) := by decide +kernel
theorem dX4_put_0 : decode cX4_put 0 = .ok (.aload_n 0, 1) := by decide +kernel
theorem dX4_put_1 : decode cX4_put 1 = .ok (.getfield 15, 3) := by decide +kernel
theorem dX4_put_4 : decode cX4_put 4 = .ok (.ifCond .lt 36, 3) := by decide +kernel
theorem dX4_put_7 : decode cX4_put 7 = .ok (.aload_n 0, 1) := by decide +kernel
theorem dX4_put_8 : decode cX4_put 8 = .ok (.getfield 15, 3) := by decide +kernel
theorem dX4_put_11 : decode cX4_put 11 = .ok (.aload_n 0, 1) := by decide +kernel
theorem dX4_put_12 : decode cX4_put 12 = .ok (.getfield 11, 3) := by decide +kernel
theorem dX4_put_15 : decode cX4_put 15 = .ok (.arraylength, 1) := by decide +kernel
theorem dX4_put_16 : decode cX4_put 16 = .ok (.if_icmp .ge 24, 3) := by decide +kernel
theorem dX4_put_19 : decode cX4_put 19 = .ok (.aload_n 0, 1) := by decide +kernel
theorem dX4_put_20 : decode cX4_put 20 = .ok (.getfield 11, 3) := by decide +kernel
theorem dX4_put_23 : decode cX4_put 23 = .ok (.aload_n 0, 1) := by decide +kernel
theorem dX4_put_24 : decode cX4_put 24 = .ok (.getfield 15, 3) := by decide +kernel
theorem dX4_put_27 : decode cX4_put 27 = .ok (.iload_n 1, 1) := by decide +kernel
theorem dX4_put_28 : decode cX4_put 28 = .ok (.i2c, 1) := by decide +kernel
theorem dX4_put_29 : decode cX4_put 29 = .ok (.castore, 1) := by decide +kernel
theorem dX4_put_30 : decode cX4_put 30 = .ok (.aload_n 0, 1) := by decide +kernel
theorem dX4_put_31 : decode cX4_put 31 = .ok (.dup, 1) := by decide +kernel
theorem dX4_put_32 : decode cX4_put 32 = .ok (.getfield 15, 3) := by decide +kernel
theorem dX4_put_35 : decode cX4_put 35 = .ok (.iconst 1, 1) := by decide +kernel
theorem dX4_put_36 : decode cX4_put 36 = .ok (.iadd, 1) := by decide +kernel
theorem dX4_put_37 : decode cX4_put 37 = .ok (.putfield 15, 3) := by decide +kernel
theorem dX4_put_40 : decode cX4_put 40 = .ok (.aload_n 0, 1) := by decide +kernel
theorem dX4_put_41 : decode cX4_put 41 = .ok (.getfield 15, 3) := by decide +kernel
theorem dX4_put_44 : decode cX4_put 44 = .ok (.ireturn, 1) := by decide +kernel
theorem dX4_empty_0 : decode cX4_empty 0 = .ok (.aload_n 0, 1) := by decide +kernel
theorem dX4_empty_1 : decode cX4_empty 1 = .ok (.getfield 15, 3) := by decide +kernel
theorem dX4_empty_4 : decode cX4_empty 4 = .ok (.istore_n 1, 1) := by decide +kernel
theorem dX4_empty_5 : decode cX4_empty 5 = .ok (.aload_n 0, 1) := by decide +kernel
theorem dX4_empty_6 : decode cX4_empty 6 = .ok (.iconst 0, 1) := by decide +kernel
theorem dX4_empty_7 : decode cX4_empty 7 = .ok (.putfield 15, 3) := by decide +kernel
theorem dX4_empty_10 : decode cX4_empty 10 = .ok (.iload_n 1, 1) := by decide +kernel
theorem dX4_empty_11 : decode cX4_empty 11 = .ok (.ireturn, 1) := by decide +kernel
theorem dX4_codeAt_0 : decode cX4_codeAt 0 = .ok (.iload_n 1, 1) := by decide +kernel
theorem dX4_codeAt_1 : decode cX4_codeAt 1 = .ok (.ifCond .lt 21, 3) := by decide +kernel
theorem dX4_codeAt_4 : decode cX4_codeAt 4 = .ok (.iload_n 1, 1) := by decide +kernel
theorem dX4_codeAt_5 : decode cX4_codeAt 5 = .ok (.aload_n 0, 1) := by decide +kernel
theorem dX4_codeAt_6 : decode cX4_codeAt 6 = .ok (.getfield 11, 3) := by decide +kernel
theorem dX4_codeAt_9 : decode cX4_codeAt 9 = .ok (.arraylength, 1) := by decide +kernel
theorem dX4_codeAt_10 : decode cX4_codeAt 10 = .ok (.if_icmp .ge 12, 3) := by decide +kernel
theorem dX4_codeAt_13 : decode cX4_codeAt 13 = .ok (.aload_n 0, 1) := by decide +kernel
theorem dX4_codeAt_14 : decode cX4_codeAt 14 = .ok (.getfield 11, 3) := by decide +kernel
theorem dX4_codeAt_17 : decode cX4_codeAt 17 = .ok (.iload_n 1, 1) := by decide +kernel
theorem dX4_codeAt_18 : decode cX4_codeAt 18 = .ok (.caload, 1) := by decide +kernel
theorem dX4_codeAt_19 : decode cX4_codeAt 19 = .ok (.goto 4, 3) := by decide +kernel
theorem dX4_codeAt_22 : decode cX4_codeAt 22 = .ok (.iconst 0, 1) := by decide +kernel
theorem dX4_codeAt_23 : decode cX4_codeAt 23 = .ok (.ireturn, 1) := by decide +kernel
theorem dX4_begin_0 : decode cX4_begin 0 = .ok (.aload_n 0, 1) := by decide +kernel
theorem dX4_begin_1 : decode cX4_begin 1 = .ok (.iconst 0, 1) := by decide +kernel
theorem dX4_begin_2 : decode cX4_begin 2 = .ok (.putfield 19, 3) := by decide +kernel
theorem dX4_begin_5 : decode cX4_begin 5 = .ok (.aload_n 0, 1) := by decide +kernel
theorem dX4_begin_6 : decode cX4_begin 6 = .ok (.iconst 0, 1) := by decide +kernel
theorem dX4_begin_7 : decode cX4_begin 7 = .ok (.putfield 22, 3) := by decide +kernel
theorem dX4_begin_10 : decode cX4_begin 10 = .ok (.return_, 1) := by decide +kernel
theorem dX4_firstWrong_0 : decode cX4_firstWrong 0 = .ok (.aload_n 0, 1) := by decide +kernel
theorem dX4_firstWrong_1 : decode cX4_firstWrong 1 = .ok (.invokevirtual 25, 3) := by decide +kernel
theorem dX4_firstWrong_4 : decode cX4_firstWrong 4 = .ok (.iconst 0, 1) := by decide +kernel
theorem dX4_firstWrong_5 : decode cX4_firstWrong 5 = .ok (.istore_n 1, 1) := by decide +kernel
theorem dX4_firstWrong_6 : decode cX4_firstWrong 6 = .ok (.iload_n 1, 1) := by decide +kernel
theorem dX4_firstWrong_7 : decode cX4_firstWrong 7 = .ok (.aload_n 0, 1) := by decide +kernel
theorem dX4_firstWrong_8 : decode cX4_firstWrong 8 = .ok (.getfield 15, 3) := by decide +kernel
theorem dX4_firstWrong_11 : decode cX4_firstWrong 11 = .ok (.if_icmp .ge 23, 3) := by decide +kernel
theorem dX4_firstWrong_14 : decode cX4_firstWrong 14 = .ok (.aload_n 0, 1) := by decide +kernel
theorem dX4_firstWrong_15 : decode cX4_firstWrong 15 = .ok (.aload_n 0, 1) := by decide +kernel
theorem dX4_firstWrong_16 : decode cX4_firstWrong 16 = .ok (.iload_n 1, 1) := by decide +kernel
theorem dX4_firstWrong_17 : decode cX4_firstWrong 17 = .ok (.invokevirtual 28, 3) := by decide +kernel
theorem dX4_firstWrong_20 : decode cX4_firstWrong 20 = .ok (.invokevirtual 32, 3) := by decide +kernel
theorem dX4_firstWrong_23 : decode cX4_firstWrong 23 = .ok (.ifCond .ne 5, 3) := by decide +kernel
theorem dX4_firstWrong_26 : decode cX4_firstWrong 26 = .ok (.iload_n 1, 1) := by decide +kernel
theorem dX4_firstWrong_27 : decode cX4_firstWrong 27 = .ok (.ireturn, 1) := by decide +kernel
theorem dX4_firstWrong_28 : decode cX4_firstWrong 28 = .ok (.iinc 1 1, 3) := by decide +kernel
theorem dX4_firstWrong_31 : decode cX4_firstWrong 31 = .ok (.goto (-25), 3) := by decide +kernel
theorem dX4_firstWrong_34 : decode cX4_firstWrong 34 = .ok (.aload_n 0, 1) := by decide +kernel
theorem dX4_firstWrong_35 : decode cX4_firstWrong 35 = .ok (.getfield 15, 3) := by decide +kernel
theorem dX4_firstWrong_38 : decode cX4_firstWrong 38 = .ok (.ireturn, 1) := by decide +kernel
theorem dX4_isComplete_0 : decode cX4_isComplete 0 = .ok (.aload_n 0, 1) := by decide +kernel
theorem dX4_isComplete_1 : decode cX4_isComplete 1 = .ok (.invokevirtual 36, 3) := by decide +kernel
theorem dX4_isComplete_4 : decode cX4_isComplete 4 = .ok (.aload_n 0, 1) := by decide +kernel
theorem dX4_isComplete_5 : decode cX4_isComplete 5 = .ok (.getfield 15, 3) := by decide +kernel
theorem dX4_isComplete_8 : decode cX4_isComplete 8 = .ok (.if_icmp .ne 33, 3) := by decide +kernel
theorem dX4_isComplete_11 : decode cX4_isComplete 11 = .ok (.aload_n 0, 1) := by decide +kernel
theorem dX4_isComplete_12 : decode cX4_isComplete 12 = .ok (.getfield 22, 3) := by decide +kernel
theorem dX4_isComplete_15 : decode cX4_isComplete 15 = .ok (.iconst 5, 1) := by decide +kernel
theorem dX4_isComplete_16 : decode cX4_isComplete 16 = .ok (.if_icmp .eq 21, 3) := by decide +kernel
theorem dX4_isComplete_19 : decode cX4_isComplete 19 = .ok (.aload_n 0, 1) := by decide +kernel
theorem dX4_isComplete_20 : decode cX4_isComplete 20 = .ok (.getfield 22, 3) := by decide +kernel
theorem dX4_isComplete_23 : decode cX4_isComplete 23 = .ok (.bipush 7, 2) := by decide +kernel
theorem dX4_isComplete_25 : decode cX4_isComplete 25 = .ok (.if_icmp .eq 12, 3) := by decide +kernel
theorem dX4_isComplete_28 : decode cX4_isComplete 28 = .ok (.aload_n 0, 1) := by decide +kernel
theorem dX4_isComplete_29 : decode cX4_isComplete 29 = .ok (.getfield 22, 3) := by decide +kernel
theorem dX4_isComplete_32 : decode cX4_isComplete 32 = .ok (.bipush 8, 2) := by decide +kernel
theorem dX4_isComplete_34 : decode cX4_isComplete 34 = .ok (.if_icmp .ne 7, 3) := by decide +kernel
theorem dX4_isComplete_37 : decode cX4_isComplete 37 = .ok (.iconst 1, 1) := by decide +kernel
theorem dX4_isComplete_38 : decode cX4_isComplete 38 = .ok (.goto 4, 3) := by decide +kernel
theorem dX4_isComplete_41 : decode cX4_isComplete 41 = .ok (.iconst 0, 1) := by decide +kernel
theorem dX4_isComplete_42 : decode cX4_isComplete 42 = .ok (.ireturn, 1) := by decide +kernel
theorem dX4_countParts_0 : decode cX4_countParts 0 = .ok (.iconst 1, 1) := by decide +kernel
theorem dX4_countParts_1 : decode cX4_countParts 1 = .ok (.istore_n 1, 1) := by decide +kernel
theorem dX4_countParts_2 : decode cX4_countParts 2 = .ok (.iconst 0, 1) := by decide +kernel
theorem dX4_countParts_3 : decode cX4_countParts 3 = .ok (.istore_n 2, 1) := by decide +kernel
theorem dX4_countParts_4 : decode cX4_countParts 4 = .ok (.iload_n 2, 1) := by decide +kernel
theorem dX4_countParts_5 : decode cX4_countParts 5 = .ok (.aload_n 0, 1) := by decide +kernel
theorem dX4_countParts_6 : decode cX4_countParts 6 = .ok (.getfield 15, 3) := by decide +kernel
theorem dX4_countParts_9 : decode cX4_countParts 9 = .ok (.if_icmp .ge 22, 3) := by decide +kernel
theorem dX4_countParts_12 : decode cX4_countParts 12 = .ok (.aload_n 0, 1) := by decide +kernel
theorem dX4_countParts_13 : decode cX4_countParts 13 = .ok (.iload_n 2, 1) := by decide +kernel
theorem dX4_countParts_14 : decode cX4_countParts 14 = .ok (.invokevirtual 28, 3) := by decide +kernel
theorem dX4_countParts_17 : decode cX4_countParts 17 = .ok (.bipush 59, 2) := by decide +kernel
theorem dX4_countParts_19 : decode cX4_countParts 19 = .ok (.if_icmp .ne 6, 3) := by decide +kernel
theorem dX4_countParts_22 : decode cX4_countParts 22 = .ok (.iinc 1 1, 3) := by decide +kernel
theorem dX4_countParts_25 : decode cX4_countParts 25 = .ok (.iinc 2 1, 3) := by decide +kernel
theorem dX4_countParts_28 : decode cX4_countParts 28 = .ok (.goto (-24), 3) := by decide +kernel
theorem dX4_countParts_31 : decode cX4_countParts 31 = .ok (.iload_n 1, 1) := by decide +kernel
theorem dX4_countParts_32 : decode cX4_countParts 32 = .ok (.ireturn, 1) := by decide +kernel
theorem dX4_readPart_0 : decode cX4_readPart 0 = .ok (.iconst 1, 1) := by decide +kernel
theorem dX4_readPart_1 : decode cX4_readPart 1 = .ok (.istore_n 1, 1) := by decide +kernel
theorem dX4_readPart_2 : decode cX4_readPart 2 = .ok (.iload_n 1, 1) := by decide +kernel
theorem dX4_readPart_3 : decode cX4_readPart 3 = .ok (.ifCond .eq 59, 3) := by decide +kernel
theorem dX4_readPart_6 : decode cX4_readPart 6 = .ok (.aload_n 0, 1) := by decide +kernel
theorem dX4_readPart_7 : decode cX4_readPart 7 = .ok (.getfield 19, 3) := by decide +kernel
theorem dX4_readPart_10 : decode cX4_readPart 10 = .ok (.aload_n 0, 1) := by decide +kernel
theorem dX4_readPart_11 : decode cX4_readPart 11 = .ok (.getfield 15, 3) := by decide +kernel
theorem dX4_readPart_14 : decode cX4_readPart 14 = .ok (.if_icmp .ge 48, 3) := by decide +kernel
theorem dX4_readPart_17 : decode cX4_readPart 17 = .ok (.aload_n 0, 1) := by decide +kernel
theorem dX4_readPart_18 : decode cX4_readPart 18 = .ok (.aload_n 0, 1) := by decide +kernel
theorem dX4_readPart_19 : decode cX4_readPart 19 = .ok (.aload_n 0, 1) := by decide +kernel
theorem dX4_readPart_20 : decode cX4_readPart 20 = .ok (.getfield 19, 3) := by decide +kernel
theorem dX4_readPart_23 : decode cX4_readPart 23 = .ok (.invokevirtual 28, 3) := by decide +kernel
theorem dX4_readPart_26 : decode cX4_readPart 26 = .ok (.invokevirtual 32, 3) := by decide +kernel
theorem dX4_readPart_29 : decode cX4_readPart 29 = .ok (.pop, 1) := by decide +kernel
theorem dX4_readPart_30 : decode cX4_readPart 30 = .ok (.aload_n 0, 1) := by decide +kernel
theorem dX4_readPart_31 : decode cX4_readPart 31 = .ok (.aload_n 0, 1) := by decide +kernel
theorem dX4_readPart_32 : decode cX4_readPart 32 = .ok (.getfield 19, 3) := by decide +kernel
theorem dX4_readPart_35 : decode cX4_readPart 35 = .ok (.invokevirtual 28, 3) := by decide +kernel
theorem dX4_readPart_38 : decode cX4_readPart 38 = .ok (.bipush 59, 2) := by decide +kernel
theorem dX4_readPart_40 : decode cX4_readPart 40 = .ok (.if_icmp .eq 7, 3) := by decide +kernel
theorem dX4_readPart_43 : decode cX4_readPart 43 = .ok (.iconst 1, 1) := by decide +kernel
theorem dX4_readPart_44 : decode cX4_readPart 44 = .ok (.goto 4, 3) := by decide +kernel
theorem dX4_readPart_47 : decode cX4_readPart 47 = .ok (.iconst 0, 1) := by decide +kernel
theorem dX4_readPart_48 : decode cX4_readPart 48 = .ok (.istore_n 1, 1) := by decide +kernel
theorem dX4_readPart_49 : decode cX4_readPart 49 = .ok (.aload_n 0, 1) := by decide +kernel
theorem dX4_readPart_50 : decode cX4_readPart 50 = .ok (.dup, 1) := by decide +kernel
theorem dX4_readPart_51 : decode cX4_readPart 51 = .ok (.getfield 19, 3) := by decide +kernel
theorem dX4_readPart_54 : decode cX4_readPart 54 = .ok (.iconst 1, 1) := by decide +kernel
theorem dX4_readPart_55 : decode cX4_readPart 55 = .ok (.iadd, 1) := by decide +kernel
theorem dX4_readPart_56 : decode cX4_readPart 56 = .ok (.putfield 19, 3) := by decide +kernel
theorem dX4_readPart_59 : decode cX4_readPart 59 = .ok (.goto (-57), 3) := by decide +kernel
theorem dX4_readPart_62 : decode cX4_readPart 62 = .ok (.return_, 1) := by decide +kernel
theorem dX4_read_0 : decode cX4_read 0 = .ok (.iload_n 1, 1) := by decide +kernel
theorem dX4_read_1 : decode cX4_read 1 = .ok (.bipush 48, 2) := by decide +kernel
theorem dX4_read_3 : decode cX4_read 3 = .ok (.if_icmp .lt 16, 3) := by decide +kernel
theorem dX4_read_6 : decode cX4_read 6 = .ok (.iload_n 1, 1) := by decide +kernel
theorem dX4_read_7 : decode cX4_read 7 = .ok (.bipush 57, 2) := by decide +kernel
theorem dX4_read_9 : decode cX4_read 9 = .ok (.if_icmp .gt 10, 3) := by decide +kernel
theorem dX4_read_12 : decode cX4_read 12 = .ok (.iload_n 1, 1) := by decide +kernel
theorem dX4_read_13 : decode cX4_read 13 = .ok (.bipush 48, 2) := by decide +kernel
theorem dX4_read_15 : decode cX4_read 15 = .ok (.isub, 1) := by decide +kernel
theorem dX4_read_16 : decode cX4_read 16 = .ok (.goto 4, 3) := by decide +kernel
theorem dX4_read_19 : decode cX4_read 19 = .ok (.iconst (-1), 1) := by decide +kernel
theorem dX4_read_20 : decode cX4_read 20 = .ok (.istore_n 2, 1) := by decide +kernel
theorem dX4_read_21 : decode cX4_read 21 = .ok (.aload_n 0, 1) := by decide +kernel
theorem dX4_read_22 : decode cX4_read 22 = .ok (.getfield 22, 3) := by decide +kernel
theorem dX4_read_25 : decode cX4_read 25 = .ok (.tableswitch 238 0 7 #[47, 62, 108, 134, 151, 177, 197, 219], 47) := by decide +kernel
theorem dX4_read_72 : decode cX4_read 72 = .ok (.aload_n 0, 1) := by decide +kernel
theorem dX4_read_73 : decode cX4_read 73 = .ok (.iload_n 2, 1) := by decide +kernel
theorem dX4_read_74 : decode cX4_read 74 = .ok (.invokevirtual 40, 3) := by decide +kernel
theorem dX4_read_77 : decode cX4_read 77 = .ok (.iload_n 2, 1) := by decide +kernel
theorem dX4_read_78 : decode cX4_read 78 = .ok (.ifCond .le 7, 3) := by decide +kernel
theorem dX4_read_81 : decode cX4_read 81 = .ok (.iconst 1, 1) := by decide +kernel
theorem dX4_read_82 : decode cX4_read 82 = .ok (.goto 4, 3) := by decide +kernel
theorem dX4_read_85 : decode cX4_read 85 = .ok (.iconst 0, 1) := by decide +kernel
theorem dX4_read_86 : decode cX4_read 86 = .ok (.ireturn, 1) := by decide +kernel
theorem dX4_read_87 : decode cX4_read 87 = .ok (.iload_n 1, 1) := by decide +kernel
theorem dX4_read_88 : decode cX4_read 88 = .ok (.bipush 100, 2) := by decide +kernel
theorem dX4_read_90 : decode cX4_read 90 = .ok (.if_icmp .ne 10, 3) := by decide +kernel
theorem dX4_read_93 : decode cX4_read 93 = .ok (.aload_n 0, 1) := by decide +kernel
theorem dX4_read_94 : decode cX4_read 94 = .ok (.iconst 2, 1) := by decide +kernel
theorem dX4_read_95 : decode cX4_read 95 = .ok (.putfield 22, 3) := by decide +kernel
theorem dX4_read_98 : decode cX4_read 98 = .ok (.iconst 1, 1) := by decide +kernel
theorem dX4_read_99 : decode cX4_read 99 = .ok (.ireturn, 1) := by decide +kernel
theorem dX4_read_100 : decode cX4_read 100 = .ok (.aload_n 0, 1) := by decide +kernel
theorem dX4_read_101 : decode cX4_read 101 = .ok (.bipush 10, 2) := by decide +kernel
theorem dX4_read_103 : decode cX4_read 103 = .ok (.aload_n 0, 1) := by decide +kernel
theorem dX4_read_104 : decode cX4_read 104 = .ok (.getfield 44, 3) := by decide +kernel
theorem dX4_read_107 : decode cX4_read 107 = .ok (.imul, 1) := by decide +kernel
theorem dX4_read_108 : decode cX4_read 108 = .ok (.iload_n 2, 1) := by decide +kernel
theorem dX4_read_109 : decode cX4_read 109 = .ok (.iadd, 1) := by decide +kernel
theorem dX4_read_110 : decode cX4_read 110 = .ok (.putfield 44, 3) := by decide +kernel
theorem dX4_read_113 : decode cX4_read 113 = .ok (.iload_n 2, 1) := by decide +kernel
theorem dX4_read_114 : decode cX4_read 114 = .ok (.iconst (-1), 1) := by decide +kernel
theorem dX4_read_115 : decode cX4_read 115 = .ok (.if_icmp .eq 16, 3) := by decide +kernel
theorem dX4_read_118 : decode cX4_read 118 = .ok (.aload_n 0, 1) := by decide +kernel
theorem dX4_read_119 : decode cX4_read 119 = .ok (.getfield 44, 3) := by decide +kernel
theorem dX4_read_122 : decode cX4_read 122 = .ok (.bipush 40, 2) := by decide +kernel
theorem dX4_read_124 : decode cX4_read 124 = .ok (.if_icmp .gt 7, 3) := by decide +kernel
theorem dX4_read_127 : decode cX4_read 127 = .ok (.iconst 1, 1) := by decide +kernel
theorem dX4_read_128 : decode cX4_read 128 = .ok (.goto 4, 3) := by decide +kernel
theorem dX4_read_131 : decode cX4_read 131 = .ok (.iconst 0, 1) := by decide +kernel
theorem dX4_read_132 : decode cX4_read 132 = .ok (.ireturn, 1) := by decide +kernel
theorem dX4_read_133 : decode cX4_read 133 = .ok (.aload_n 0, 1) := by decide +kernel
theorem dX4_read_134 : decode cX4_read 134 = .ok (.iload_n 2, 1) := by decide +kernel
theorem dX4_read_135 : decode cX4_read 135 = .ok (.putfield 47, 3) := by decide +kernel
theorem dX4_read_138 : decode cX4_read 138 = .ok (.aload_n 0, 1) := by decide +kernel
theorem dX4_read_139 : decode cX4_read 139 = .ok (.iconst 3, 1) := by decide +kernel
theorem dX4_read_140 : decode cX4_read 140 = .ok (.putfield 22, 3) := by decide +kernel
theorem dX4_read_143 : decode cX4_read 143 = .ok (.iload_n 2, 1) := by decide +kernel
theorem dX4_read_144 : decode cX4_read 144 = .ok (.iconst (-1), 1) := by decide +kernel
theorem dX4_read_145 : decode cX4_read 145 = .ok (.if_icmp .eq 12, 3) := by decide +kernel
theorem dX4_read_148 : decode cX4_read 148 = .ok (.iload_n 2, 1) := by decide +kernel
theorem dX4_read_149 : decode cX4_read 149 = .ok (.iconst 5, 1) := by decide +kernel
theorem dX4_read_150 : decode cX4_read 150 = .ok (.if_icmp .ge 7, 3) := by decide +kernel
theorem dX4_read_153 : decode cX4_read 153 = .ok (.iconst 1, 1) := by decide +kernel
theorem dX4_read_154 : decode cX4_read 154 = .ok (.goto 4, 3) := by decide +kernel
theorem dX4_read_157 : decode cX4_read 157 = .ok (.iconst 0, 1) := by decide +kernel
theorem dX4_read_158 : decode cX4_read 158 = .ok (.ireturn, 1) := by decide +kernel
theorem dX4_read_159 : decode cX4_read 159 = .ok (.aload_n 0, 1) := by decide +kernel
theorem dX4_read_160 : decode cX4_read 160 = .ok (.iconst 4, 1) := by decide +kernel
theorem dX4_read_161 : decode cX4_read 161 = .ok (.putfield 22, 3) := by decide +kernel
theorem dX4_read_164 : decode cX4_read 164 = .ok (.iload_n 1, 1) := by decide +kernel
theorem dX4_read_165 : decode cX4_read 165 = .ok (.bipush 104, 2) := by decide +kernel
theorem dX4_read_167 : decode cX4_read 167 = .ok (.if_icmp .ne 7, 3) := by decide +kernel
theorem dX4_read_170 : decode cX4_read 170 = .ok (.iconst 1, 1) := by decide +kernel
theorem dX4_read_171 : decode cX4_read 171 = .ok (.goto 4, 3) := by decide +kernel
theorem dX4_read_174 : decode cX4_read 174 = .ok (.iconst 0, 1) := by decide +kernel
theorem dX4_read_175 : decode cX4_read 175 = .ok (.ireturn, 1) := by decide +kernel
theorem dX4_read_176 : decode cX4_read 176 = .ok (.aload_n 0, 1) := by decide +kernel
theorem dX4_read_177 : decode cX4_read 177 = .ok (.iload_n 2, 1) := by decide +kernel
theorem dX4_read_178 : decode cX4_read 178 = .ok (.putfield 50, 3) := by decide +kernel
theorem dX4_read_181 : decode cX4_read 181 = .ok (.aload_n 0, 1) := by decide +kernel
theorem dX4_read_182 : decode cX4_read 182 = .ok (.iconst 5, 1) := by decide +kernel
theorem dX4_read_183 : decode cX4_read 183 = .ok (.putfield 22, 3) := by decide +kernel
theorem dX4_read_186 : decode cX4_read 186 = .ok (.iload_n 2, 1) := by decide +kernel
theorem dX4_read_187 : decode cX4_read 187 = .ok (.iconst (-1), 1) := by decide +kernel
theorem dX4_read_188 : decode cX4_read 188 = .ok (.if_icmp .eq 12, 3) := by decide +kernel
theorem dX4_read_191 : decode cX4_read 191 = .ok (.iload_n 2, 1) := by decide +kernel
theorem dX4_read_192 : decode cX4_read 192 = .ok (.iconst 4, 1) := by decide +kernel
theorem dX4_read_193 : decode cX4_read 193 = .ok (.if_icmp .ge 7, 3) := by decide +kernel
theorem dX4_read_196 : decode cX4_read 196 = .ok (.iconst 1, 1) := by decide +kernel
theorem dX4_read_197 : decode cX4_read 197 = .ok (.goto 4, 3) := by decide +kernel
theorem dX4_read_200 : decode cX4_read 200 = .ok (.iconst 0, 1) := by decide +kernel
theorem dX4_read_201 : decode cX4_read 201 = .ok (.ireturn, 1) := by decide +kernel
theorem dX4_read_202 : decode cX4_read 202 = .ok (.iload_n 1, 1) := by decide +kernel
theorem dX4_read_203 : decode cX4_read 203 = .ok (.bipush 64, 2) := by decide +kernel
theorem dX4_read_205 : decode cX4_read 205 = .ok (.if_icmp .ne 11, 3) := by decide +kernel
theorem dX4_read_208 : decode cX4_read 208 = .ok (.aload_n 0, 1) := by decide +kernel
theorem dX4_read_209 : decode cX4_read 209 = .ok (.bipush 6, 2) := by decide +kernel
theorem dX4_read_211 : decode cX4_read 211 = .ok (.putfield 22, 3) := by decide +kernel
theorem dX4_read_214 : decode cX4_read 214 = .ok (.iconst 1, 1) := by decide +kernel
theorem dX4_read_215 : decode cX4_read 215 = .ok (.ireturn, 1) := by decide +kernel
theorem dX4_read_216 : decode cX4_read 216 = .ok (.aload_n 0, 1) := by decide +kernel
theorem dX4_read_217 : decode cX4_read 217 = .ok (.iload_n 1, 1) := by decide +kernel
theorem dX4_read_218 : decode cX4_read 218 = .ok (.invokevirtual 53, 3) := by decide +kernel
theorem dX4_read_221 : decode cX4_read 221 = .ok (.ireturn, 1) := by decide +kernel
theorem dX4_read_222 : decode cX4_read 222 = .ok (.aload_n 0, 1) := by decide +kernel
theorem dX4_read_223 : decode cX4_read 223 = .ok (.iload_n 2, 1) := by decide +kernel
theorem dX4_read_224 : decode cX4_read 224 = .ok (.putfield 56, 3) := by decide +kernel
theorem dX4_read_227 : decode cX4_read 227 = .ok (.aload_n 0, 1) := by decide +kernel
theorem dX4_read_228 : decode cX4_read 228 = .ok (.bipush 7, 2) := by decide +kernel
theorem dX4_read_230 : decode cX4_read 230 = .ok (.putfield 22, 3) := by decide +kernel
theorem dX4_read_233 : decode cX4_read 233 = .ok (.iload_n 2, 1) := by decide +kernel
theorem dX4_read_234 : decode cX4_read 234 = .ok (.iconst (-1), 1) := by decide +kernel
theorem dX4_read_235 : decode cX4_read 235 = .ok (.if_icmp .eq 7, 3) := by decide +kernel
theorem dX4_read_238 : decode cX4_read 238 = .ok (.iconst 1, 1) := by decide +kernel
theorem dX4_read_239 : decode cX4_read 239 = .ok (.goto 4, 3) := by decide +kernel
theorem dX4_read_242 : decode cX4_read 242 = .ok (.iconst 0, 1) := by decide +kernel
theorem dX4_read_243 : decode cX4_read 243 = .ok (.ireturn, 1) := by decide +kernel
theorem dX4_read_244 : decode cX4_read 244 = .ok (.iload_n 2, 1) := by decide +kernel
theorem dX4_read_245 : decode cX4_read 245 = .ok (.iconst (-1), 1) := by decide +kernel
theorem dX4_read_246 : decode cX4_read 246 = .ok (.if_icmp .ne 11, 3) := by decide +kernel
theorem dX4_read_249 : decode cX4_read 249 = .ok (.aload_n 0, 1) := by decide +kernel
theorem dX4_read_250 : decode cX4_read 250 = .ok (.iload_n 1, 1) := by decide +kernel
theorem dX4_read_251 : decode cX4_read 251 = .ok (.invokevirtual 53, 3) := by decide +kernel
theorem dX4_read_254 : decode cX4_read 254 = .ok (.goto 8, 3) := by decide +kernel
theorem dX4_read_257 : decode cX4_read 257 = .ok (.aload_n 0, 1) := by decide +kernel
theorem dX4_read_258 : decode cX4_read 258 = .ok (.iload_n 2, 1) := by decide +kernel
theorem dX4_read_259 : decode cX4_read 259 = .ok (.invokevirtual 59, 3) := by decide +kernel
theorem dX4_read_262 : decode cX4_read 262 = .ok (.ireturn, 1) := by decide +kernel
theorem dX4_read_263 : decode cX4_read 263 = .ok (.aload_n 0, 1) := by decide +kernel
theorem dX4_read_264 : decode cX4_read 264 = .ok (.iload_n 1, 1) := by decide +kernel
theorem dX4_read_265 : decode cX4_read 265 = .ok (.invokevirtual 62, 3) := by decide +kernel
theorem dX4_read_268 : decode cX4_read 268 = .ok (.ireturn, 1) := by decide +kernel
theorem dX4_beginPart_0 : decode cX4_beginPart 0 = .ok (.aload_n 0, 1) := by decide +kernel
theorem dX4_beginPart_1 : decode cX4_beginPart 1 = .ok (.iload_n 1, 1) := by decide +kernel
theorem dX4_beginPart_2 : decode cX4_beginPart 2 = .ok (.putfield 44, 3) := by decide +kernel
theorem dX4_beginPart_5 : decode cX4_beginPart 5 = .ok (.aload_n 0, 1) := by decide +kernel
theorem dX4_beginPart_6 : decode cX4_beginPart 6 = .ok (.sipush 9999, 3) := by decide +kernel
theorem dX4_beginPart_9 : decode cX4_beginPart 9 = .ok (.putfield 56, 3) := by decide +kernel
theorem dX4_beginPart_12 : decode cX4_beginPart 12 = .ok (.aload_n 0, 1) := by decide +kernel
theorem dX4_beginPart_13 : decode cX4_beginPart 13 = .ok (.iconst 0, 1) := by decide +kernel
theorem dX4_beginPart_14 : decode cX4_beginPart 14 = .ok (.putfield 65, 3) := by decide +kernel
theorem dX4_beginPart_17 : decode cX4_beginPart 17 = .ok (.aload_n 0, 1) := by decide +kernel
theorem dX4_beginPart_18 : decode cX4_beginPart 18 = .ok (.iconst 1, 1) := by decide +kernel
theorem dX4_beginPart_19 : decode cX4_beginPart 19 = .ok (.putfield 22, 3) := by decide +kernel
theorem dX4_beginPart_22 : decode cX4_beginPart 22 = .ok (.return_, 1) := by decide +kernel
theorem dX4_readMoreDue_0 : decode cX4_readMoreDue 0 = .ok (.aload_n 0, 1) := by decide +kernel
theorem dX4_readMoreDue_1 : decode cX4_readMoreDue 1 = .ok (.getfield 56, 3) := by decide +kernel
theorem dX4_readMoreDue_4 : decode cX4_readMoreDue 4 = .ok (.ifCond .ne 7, 3) := by decide +kernel
theorem dX4_readMoreDue_7 : decode cX4_readMoreDue 7 = .ok (.iconst 1, 1) := by decide +kernel
theorem dX4_readMoreDue_8 : decode cX4_readMoreDue 8 = .ok (.goto 4, 3) := by decide +kernel
theorem dX4_readMoreDue_11 : decode cX4_readMoreDue 11 = .ok (.iconst 0, 1) := by decide +kernel
theorem dX4_readMoreDue_12 : decode cX4_readMoreDue 12 = .ok (.istore_n 2, 1) := by decide +kernel
theorem dX4_readMoreDue_13 : decode cX4_readMoreDue 13 = .ok (.aload_n 0, 1) := by decide +kernel
theorem dX4_readMoreDue_14 : decode cX4_readMoreDue 14 = .ok (.bipush 10, 2) := by decide +kernel
theorem dX4_readMoreDue_16 : decode cX4_readMoreDue 16 = .ok (.aload_n 0, 1) := by decide +kernel
theorem dX4_readMoreDue_17 : decode cX4_readMoreDue 17 = .ok (.getfield 56, 3) := by decide +kernel
theorem dX4_readMoreDue_20 : decode cX4_readMoreDue 20 = .ok (.imul, 1) := by decide +kernel
theorem dX4_readMoreDue_21 : decode cX4_readMoreDue 21 = .ok (.iload_n 1, 1) := by decide +kernel
theorem dX4_readMoreDue_22 : decode cX4_readMoreDue 22 = .ok (.iadd, 1) := by decide +kernel
theorem dX4_readMoreDue_23 : decode cX4_readMoreDue 23 = .ok (.putfield 56, 3) := by decide +kernel
theorem dX4_readMoreDue_26 : decode cX4_readMoreDue 26 = .ok (.iload_n 2, 1) := by decide +kernel
theorem dX4_readMoreDue_27 : decode cX4_readMoreDue 27 = .ok (.ifCond .ne 17, 3) := by decide +kernel
theorem dX4_readMoreDue_30 : decode cX4_readMoreDue 30 = .ok (.aload_n 0, 1) := by decide +kernel
theorem dX4_readMoreDue_31 : decode cX4_readMoreDue 31 = .ok (.getfield 56, 3) := by decide +kernel
theorem dX4_readMoreDue_34 : decode cX4_readMoreDue 34 = .ok (.sipush 9999, 3) := by decide +kernel
theorem dX4_readMoreDue_37 : decode cX4_readMoreDue 37 = .ok (.if_icmp .gt 7, 3) := by decide +kernel
theorem dX4_readMoreDue_40 : decode cX4_readMoreDue 40 = .ok (.iconst 1, 1) := by decide +kernel
theorem dX4_readMoreDue_41 : decode cX4_readMoreDue 41 = .ok (.goto 4, 3) := by decide +kernel
theorem dX4_readMoreDue_44 : decode cX4_readMoreDue 44 = .ok (.iconst 0, 1) := by decide +kernel
theorem dX4_readMoreDue_45 : decode cX4_readMoreDue 45 = .ok (.ireturn, 1) := by decide +kernel
theorem dX4_readEnd_0 : decode cX4_readEnd 0 = .ok (.iload_n 1, 1) := by decide +kernel
theorem dX4_readEnd_1 : decode cX4_readEnd 1 = .ok (.bipush 33, 2) := by decide +kernel
theorem dX4_readEnd_3 : decode cX4_readEnd 3 = .ok (.if_icmp .ne 16, 3) := by decide +kernel
theorem dX4_readEnd_6 : decode cX4_readEnd 6 = .ok (.aload_n 0, 1) := by decide +kernel
theorem dX4_readEnd_7 : decode cX4_readEnd 7 = .ok (.iconst 1, 1) := by decide +kernel
theorem dX4_readEnd_8 : decode cX4_readEnd 8 = .ok (.putfield 65, 3) := by decide +kernel
theorem dX4_readEnd_11 : decode cX4_readEnd 11 = .ok (.aload_n 0, 1) := by decide +kernel
theorem dX4_readEnd_12 : decode cX4_readEnd 12 = .ok (.bipush 8, 2) := by decide +kernel
theorem dX4_readEnd_14 : decode cX4_readEnd 14 = .ok (.putfield 22, 3) := by decide +kernel
theorem dX4_readEnd_17 : decode cX4_readEnd 17 = .ok (.iconst 1, 1) := by decide +kernel
theorem dX4_readEnd_18 : decode cX4_readEnd 18 = .ok (.ireturn, 1) := by decide +kernel
theorem dX4_readEnd_19 : decode cX4_readEnd 19 = .ok (.aload_n 0, 1) := by decide +kernel
theorem dX4_readEnd_20 : decode cX4_readEnd 20 = .ok (.iload_n 1, 1) := by decide +kernel
theorem dX4_readEnd_21 : decode cX4_readEnd 21 = .ok (.invokevirtual 62, 3) := by decide +kernel
theorem dX4_readEnd_24 : decode cX4_readEnd 24 = .ok (.ireturn, 1) := by decide +kernel
theorem dX4_readSeparator_0 : decode cX4_readSeparator 0 = .ok (.aload_n 0, 1) := by decide +kernel
theorem dX4_readSeparator_1 : decode cX4_readSeparator 1 = .ok (.iconst 0, 1) := by decide +kernel
theorem dX4_readSeparator_2 : decode cX4_readSeparator 2 = .ok (.putfield 22, 3) := by decide +kernel
theorem dX4_readSeparator_5 : decode cX4_readSeparator 5 = .ok (.iload_n 1, 1) := by decide +kernel
theorem dX4_readSeparator_6 : decode cX4_readSeparator 6 = .ok (.bipush 59, 2) := by decide +kernel
theorem dX4_readSeparator_8 : decode cX4_readSeparator 8 = .ok (.if_icmp .ne 7, 3) := by decide +kernel
theorem dX4_readSeparator_11 : decode cX4_readSeparator 11 = .ok (.iconst 1, 1) := by decide +kernel
theorem dX4_readSeparator_12 : decode cX4_readSeparator 12 = .ok (.goto 4, 3) := by decide +kernel
theorem dX4_readSeparator_15 : decode cX4_readSeparator 15 = .ok (.iconst 0, 1) := by decide +kernel
theorem dX4_readSeparator_16 : decode cX4_readSeparator 16 = .ok (.ireturn, 1) := by decide +kernel
theorem dX5_init_0 : decode cX5_init 0 = .ok (.aload_n 0, 1) := by decide +kernel
theorem dX5_init_1 : decode cX5_init 1 = .ok (.invokespecial 3, 3) := by decide +kernel
theorem dX5_init_4 : decode cX5_init 4 = .ok (.aload_n 0, 1) := by decide +kernel
theorem dX5_init_5 : decode cX5_init 5 = .ok (.sipush 150, 3) := by decide +kernel
theorem dX5_init_8 : decode cX5_init 8 = .ok (.putfield 9, 3) := by decide +kernel
theorem dX5_init_11 : decode cX5_init 11 = .ok (.aload_n 0, 1) := by decide +kernel
theorem dX5_init_12 : decode cX5_init 12 = .ok (.bipush 40, 2) := by decide +kernel
theorem dX5_init_14 : decode cX5_init 14 = .ok (.putfield 15, 3) := by decide +kernel
theorem dX5_init_17 : decode cX5_init 17 = .ok (.aload_n 0, 1) := by decide +kernel
theorem dX5_init_18 : decode cX5_init 18 = .ok (.iconst 1, 1) := by decide +kernel
theorem dX5_init_19 : decode cX5_init 19 = .ok (.putfield 18, 3) := by decide +kernel
theorem dX5_init_22 : decode cX5_init 22 = .ok (.aload_n 0, 1) := by decide +kernel
theorem dX5_init_23 : decode cX5_init 23 = .ok (.iconst 5, 1) := by decide +kernel
theorem dX5_init_24 : decode cX5_init 24 = .ok (.putfield 21, 3) := by decide +kernel
theorem dX5_init_27 : decode cX5_init 27 = .ok (.aload_n 0, 1) := by decide +kernel
theorem dX5_init_28 : decode cX5_init 28 = .ok (.iconst 4, 1) := by decide +kernel
theorem dX5_init_29 : decode cX5_init 29 = .ok (.anewarray 24, 3) := by decide +kernel
theorem dX5_init_32 : decode cX5_init 32 = .ok (.putfield 26, 3) := by decide +kernel
theorem dX5_init_35 : decode cX5_init 35 = .ok (.iconst 0, 1) := by decide +kernel
theorem dX5_init_36 : decode cX5_init 36 = .ok (.istore_n 1, 1) := by decide +kernel
theorem dX5_init_37 : decode cX5_init 37 = .ok (.iload_n 1, 1) := by decide +kernel
theorem dX5_init_38 : decode cX5_init 38 = .ok (.aload_n 0, 1) := by decide +kernel
theorem dX5_init_39 : decode cX5_init 39 = .ok (.getfield 26, 3) := by decide +kernel
theorem dX5_init_42 : decode cX5_init 42 = .ok (.arraylength, 1) := by decide +kernel
theorem dX5_init_43 : decode cX5_init 43 = .ok (.if_icmp .ge 22, 3) := by decide +kernel
theorem dX5_init_46 : decode cX5_init 46 = .ok (.aload_n 0, 1) := by decide +kernel
theorem dX5_init_47 : decode cX5_init 47 = .ok (.getfield 26, 3) := by decide +kernel
theorem dX5_init_50 : decode cX5_init 50 = .ok (.iload_n 1, 1) := by decide +kernel
theorem dX5_init_51 : decode cX5_init 51 = .ok (.new 24, 3) := by decide +kernel
theorem dX5_init_54 : decode cX5_init 54 = .ok (.dup, 1) := by decide +kernel
theorem dX5_init_55 : decode cX5_init 55 = .ok (.invokespecial 30, 3) := by decide +kernel
theorem dX5_init_58 : decode cX5_init 58 = .ok (.aastore, 1) := by decide +kernel
theorem dX5_init_59 : decode cX5_init 59 = .ok (.iinc 1 1, 3) := by decide +kernel
theorem dX5_init_62 : decode cX5_init 62 = .ok (.goto (-25), 3) := by decide +kernel
theorem dX5_init_65 : decode cX5_init 65 = .ok (.aload_n 0, 1) := by decide +kernel
theorem dX5_init_66 : decode cX5_init 66 = .ok (.iconst 5, 1) := by decide +kernel
theorem dX5_init_67 : decode cX5_init 67 = .ok (.anewarray 31, 3) := by decide +kernel
theorem dX5_init_70 : decode cX5_init 70 = .ok (.putfield 33, 3) := by decide +kernel
theorem dX5_init_73 : decode cX5_init 73 = .ok (.iconst 0, 1) := by decide +kernel
theorem dX5_init_74 : decode cX5_init 74 = .ok (.istore_n 1, 1) := by decide +kernel
theorem dX5_init_75 : decode cX5_init 75 = .ok (.iload_n 1, 1) := by decide +kernel
theorem dX5_init_76 : decode cX5_init 76 = .ok (.aload_n 0, 1) := by decide +kernel
theorem dX5_init_77 : decode cX5_init 77 = .ok (.getfield 33, 3) := by decide +kernel
theorem dX5_init_80 : decode cX5_init 80 = .ok (.arraylength, 1) := by decide +kernel
theorem dX5_init_81 : decode cX5_init 81 = .ok (.if_icmp .ge 22, 3) := by decide +kernel
theorem dX5_init_84 : decode cX5_init 84 = .ok (.aload_n 0, 1) := by decide +kernel
theorem dX5_init_85 : decode cX5_init 85 = .ok (.getfield 33, 3) := by decide +kernel
theorem dX5_init_88 : decode cX5_init 88 = .ok (.iload_n 1, 1) := by decide +kernel
theorem dX5_init_89 : decode cX5_init 89 = .ok (.new 31, 3) := by decide +kernel
theorem dX5_init_92 : decode cX5_init 92 = .ok (.dup, 1) := by decide +kernel
theorem dX5_init_93 : decode cX5_init 93 = .ok (.invokespecial 37, 3) := by decide +kernel
theorem dX5_init_96 : decode cX5_init 96 = .ok (.aastore, 1) := by decide +kernel
theorem dX5_init_97 : decode cX5_init 97 = .ok (.iinc 1 1, 3) := by decide +kernel
theorem dX5_init_100 : decode cX5_init 100 = .ok (.goto (-25), 3) := by decide +kernel
theorem dX5_init_103 : decode cX5_init 103 = .ok (.aload_n 0, 1) := by decide +kernel
theorem dX5_init_104 : decode cX5_init 104 = .ok (.bipush 10, 2) := by decide +kernel
theorem dX5_init_106 : decode cX5_init 106 = .ok (.anewarray 38, 3) := by decide +kernel
theorem dX5_init_109 : decode cX5_init 109 = .ok (.putfield 40, 3) := by decide +kernel
theorem dX5_init_112 : decode cX5_init 112 = .ok (.iconst 0, 1) := by decide +kernel
theorem dX5_init_113 : decode cX5_init 113 = .ok (.istore_n 1, 1) := by decide +kernel
theorem dX5_init_114 : decode cX5_init 114 = .ok (.iload_n 1, 1) := by decide +kernel
theorem dX5_init_115 : decode cX5_init 115 = .ok (.aload_n 0, 1) := by decide +kernel
theorem dX5_init_116 : decode cX5_init 116 = .ok (.getfield 40, 3) := by decide +kernel
theorem dX5_init_119 : decode cX5_init 119 = .ok (.arraylength, 1) := by decide +kernel
theorem dX5_init_120 : decode cX5_init 120 = .ok (.if_icmp .ge 22, 3) := by decide +kernel
theorem dX5_init_123 : decode cX5_init 123 = .ok (.aload_n 0, 1) := by decide +kernel
theorem dX5_init_124 : decode cX5_init 124 = .ok (.getfield 40, 3) := by decide +kernel
theorem dX5_init_127 : decode cX5_init 127 = .ok (.iload_n 1, 1) := by decide +kernel
theorem dX5_init_128 : decode cX5_init 128 = .ok (.new 38, 3) := by decide +kernel
theorem dX5_init_131 : decode cX5_init 131 = .ok (.dup, 1) := by decide +kernel
theorem dX5_init_132 : decode cX5_init 132 = .ok (.invokespecial 44, 3) := by decide +kernel
theorem dX5_init_135 : decode cX5_init 135 = .ok (.aastore, 1) := by decide +kernel
theorem dX5_init_136 : decode cX5_init 136 = .ok (.iinc 1 1, 3) := by decide +kernel
theorem dX5_init_139 : decode cX5_init 139 = .ok (.goto (-25), 3) := by decide +kernel
theorem dX5_init_142 : decode cX5_init 142 = .ok (.aload_n 0, 1) := by decide +kernel
theorem dX5_init_143 : decode cX5_init 143 = .ok (.bipush 6, 2) := by decide +kernel
theorem dX5_init_145 : decode cX5_init 145 = .ok (.anewarray 45, 3) := by decide +kernel
theorem dX5_init_148 : decode cX5_init 148 = .ok (.putfield 47, 3) := by decide +kernel
theorem dX5_init_151 : decode cX5_init 151 = .ok (.iconst 0, 1) := by decide +kernel
theorem dX5_init_152 : decode cX5_init 152 = .ok (.istore_n 1, 1) := by decide +kernel
theorem dX5_init_153 : decode cX5_init 153 = .ok (.iload_n 1, 1) := by decide +kernel
theorem dX5_init_154 : decode cX5_init 154 = .ok (.aload_n 0, 1) := by decide +kernel
theorem dX5_init_155 : decode cX5_init 155 = .ok (.getfield 47, 3) := by decide +kernel
theorem dX5_init_158 : decode cX5_init 158 = .ok (.arraylength, 1) := by decide +kernel
theorem dX5_init_159 : decode cX5_init 159 = .ok (.if_icmp .ge 22, 3) := by decide +kernel
theorem dX5_init_162 : decode cX5_init 162 = .ok (.aload_n 0, 1) := by decide +kernel
theorem dX5_init_163 : decode cX5_init 163 = .ok (.getfield 47, 3) := by decide +kernel
theorem dX5_init_166 : decode cX5_init 166 = .ok (.iload_n 1, 1) := by decide +kernel
theorem dX5_init_167 : decode cX5_init 167 = .ok (.new 45, 3) := by decide +kernel
theorem dX5_init_170 : decode cX5_init 170 = .ok (.dup, 1) := by decide +kernel
theorem dX5_init_171 : decode cX5_init 171 = .ok (.invokespecial 51, 3) := by decide +kernel
theorem dX5_init_174 : decode cX5_init 174 = .ok (.aastore, 1) := by decide +kernel
theorem dX5_init_175 : decode cX5_init 175 = .ok (.iinc 1 1, 3) := by decide +kernel
theorem dX5_init_178 : decode cX5_init 178 = .ok (.goto (-25), 3) := by decide +kernel
theorem dX5_init_181 : decode cX5_init 181 = .ok (.aload_n 0, 1) := by decide +kernel
theorem dX5_init_182 : decode cX5_init 182 = .ok (.new 45, 3) := by decide +kernel
theorem dX5_init_185 : decode cX5_init 185 = .ok (.dup, 1) := by decide +kernel
theorem dX5_init_186 : decode cX5_init 186 = .ok (.invokespecial 51, 3) := by decide +kernel
theorem dX5_init_189 : decode cX5_init 189 = .ok (.putfield 52, 3) := by decide +kernel
theorem dX5_init_192 : decode cX5_init 192 = .ok (.aload_n 0, 1) := by decide +kernel
theorem dX5_init_193 : decode cX5_init 193 = .ok (.new 24, 3) := by decide +kernel
theorem dX5_init_196 : decode cX5_init 196 = .ok (.dup, 1) := by decide +kernel
theorem dX5_init_197 : decode cX5_init 197 = .ok (.invokespecial 30, 3) := by decide +kernel
theorem dX5_init_200 : decode cX5_init 200 = .ok (.putfield 56, 3) := by decide +kernel
theorem dX5_init_203 : decode cX5_init 203 = .ok (.aload_n 0, 1) := by decide +kernel
theorem dX5_init_204 : decode cX5_init 204 = .ok (.new 31, 3) := by decide +kernel
theorem dX5_init_207 : decode cX5_init 207 = .ok (.dup, 1) := by decide +kernel
theorem dX5_init_208 : decode cX5_init 208 = .ok (.invokespecial 37, 3) := by decide +kernel
theorem dX5_init_211 : decode cX5_init 211 = .ok (.putfield 60, 3) := by decide +kernel
theorem dX5_init_214 : decode cX5_init 214 = .ok (.aload_n 0, 1) := by decide +kernel
theorem dX5_init_215 : decode cX5_init 215 = .ok (.new 38, 3) := by decide +kernel
theorem dX5_init_218 : decode cX5_init 218 = .ok (.dup, 1) := by decide +kernel
theorem dX5_init_219 : decode cX5_init 219 = .ok (.invokespecial 44, 3) := by decide +kernel
theorem dX5_init_222 : decode cX5_init 222 = .ok (.putfield 64, 3) := by decide +kernel
theorem dX5_init_225 : decode cX5_init 225 = .ok (.return_, 1) := by decide +kernel
theorem dX5_copyFrom_0 : decode cX5_copyFrom 0 = .ok (.iconst 0, 1) := by decide +kernel
theorem dX5_copyFrom_1 : decode cX5_copyFrom 1 = .ok (.istore_n 2, 1) := by decide +kernel
theorem dX5_copyFrom_2 : decode cX5_copyFrom 2 = .ok (.iload_n 2, 1) := by decide +kernel
theorem dX5_copyFrom_3 : decode cX5_copyFrom 3 = .ok (.iconst 4, 1) := by decide +kernel
theorem dX5_copyFrom_4 : decode cX5_copyFrom 4 = .ok (.if_icmp .ge 22, 3) := by decide +kernel
theorem dX5_copyFrom_7 : decode cX5_copyFrom 7 = .ok (.aload_n 0, 1) := by decide +kernel
theorem dX5_copyFrom_8 : decode cX5_copyFrom 8 = .ok (.iload_n 2, 1) := by decide +kernel
theorem dX5_copyFrom_9 : decode cX5_copyFrom 9 = .ok (.invokevirtual 68, 3) := by decide +kernel
theorem dX5_copyFrom_12 : decode cX5_copyFrom 12 = .ok (.aload_n 1, 1) := by decide +kernel
theorem dX5_copyFrom_13 : decode cX5_copyFrom 13 = .ok (.iload_n 2, 1) := by decide +kernel
theorem dX5_copyFrom_14 : decode cX5_copyFrom 14 = .ok (.invokevirtual 68, 3) := by decide +kernel
theorem dX5_copyFrom_17 : decode cX5_copyFrom 17 = .ok (.invokevirtual 72, 3) := by decide +kernel
theorem dX5_copyFrom_20 : decode cX5_copyFrom 20 = .ok (.iinc 2 1, 3) := by decide +kernel
theorem dX5_copyFrom_23 : decode cX5_copyFrom 23 = .ok (.goto (-21), 3) := by decide +kernel
theorem dX5_copyFrom_26 : decode cX5_copyFrom 26 = .ok (.iconst 0, 1) := by decide +kernel
theorem dX5_copyFrom_27 : decode cX5_copyFrom 27 = .ok (.istore_n 2, 1) := by decide +kernel
theorem dX5_copyFrom_28 : decode cX5_copyFrom 28 = .ok (.iload_n 2, 1) := by decide +kernel
theorem dX5_copyFrom_29 : decode cX5_copyFrom 29 = .ok (.iconst 5, 1) := by decide +kernel
theorem dX5_copyFrom_30 : decode cX5_copyFrom 30 = .ok (.if_icmp .ge 22, 3) := by decide +kernel
theorem dX5_copyFrom_33 : decode cX5_copyFrom 33 = .ok (.aload_n 0, 1) := by decide +kernel
theorem dX5_copyFrom_34 : decode cX5_copyFrom 34 = .ok (.iload_n 2, 1) := by decide +kernel
theorem dX5_copyFrom_35 : decode cX5_copyFrom 35 = .ok (.invokevirtual 76, 3) := by decide +kernel
theorem dX5_copyFrom_38 : decode cX5_copyFrom 38 = .ok (.aload_n 1, 1) := by decide +kernel
theorem dX5_copyFrom_39 : decode cX5_copyFrom 39 = .ok (.iload_n 2, 1) := by decide +kernel
theorem dX5_copyFrom_40 : decode cX5_copyFrom 40 = .ok (.invokevirtual 76, 3) := by decide +kernel
theorem dX5_copyFrom_43 : decode cX5_copyFrom 43 = .ok (.invokevirtual 80, 3) := by decide +kernel
theorem dX5_copyFrom_46 : decode cX5_copyFrom 46 = .ok (.iinc 2 1, 3) := by decide +kernel
theorem dX5_copyFrom_49 : decode cX5_copyFrom 49 = .ok (.goto (-21), 3) := by decide +kernel
theorem dX5_copyFrom_52 : decode cX5_copyFrom 52 = .ok (.iconst 0, 1) := by decide +kernel
theorem dX5_copyFrom_53 : decode cX5_copyFrom 53 = .ok (.istore_n 2, 1) := by decide +kernel
theorem dX5_copyFrom_54 : decode cX5_copyFrom 54 = .ok (.iload_n 2, 1) := by decide +kernel
theorem dX5_copyFrom_55 : decode cX5_copyFrom 55 = .ok (.aload_n 1, 1) := by decide +kernel
theorem dX5_copyFrom_56 : decode cX5_copyFrom 56 = .ok (.getfield 83, 3) := by decide +kernel
theorem dX5_copyFrom_59 : decode cX5_copyFrom 59 = .ok (.if_icmp .ge 22, 3) := by decide +kernel
theorem dX5_copyFrom_62 : decode cX5_copyFrom 62 = .ok (.aload_n 0, 1) := by decide +kernel
theorem dX5_copyFrom_63 : decode cX5_copyFrom 63 = .ok (.iload_n 2, 1) := by decide +kernel
theorem dX5_copyFrom_64 : decode cX5_copyFrom 64 = .ok (.invokevirtual 86, 3) := by decide +kernel
theorem dX5_copyFrom_67 : decode cX5_copyFrom 67 = .ok (.aload_n 1, 1) := by decide +kernel
theorem dX5_copyFrom_68 : decode cX5_copyFrom 68 = .ok (.iload_n 2, 1) := by decide +kernel
theorem dX5_copyFrom_69 : decode cX5_copyFrom 69 = .ok (.invokevirtual 86, 3) := by decide +kernel
theorem dX5_copyFrom_72 : decode cX5_copyFrom 72 = .ok (.invokevirtual 90, 3) := by decide +kernel
theorem dX5_copyFrom_75 : decode cX5_copyFrom 75 = .ok (.iinc 2 1, 3) := by decide +kernel
theorem dX5_copyFrom_78 : decode cX5_copyFrom 78 = .ok (.goto (-24), 3) := by decide +kernel
theorem dX5_copyFrom_81 : decode cX5_copyFrom 81 = .ok (.iconst 0, 1) := by decide +kernel
theorem dX5_copyFrom_82 : decode cX5_copyFrom 82 = .ok (.istore_n 2, 1) := by decide +kernel
theorem dX5_copyFrom_83 : decode cX5_copyFrom 83 = .ok (.iload_n 2, 1) := by decide +kernel
theorem dX5_copyFrom_84 : decode cX5_copyFrom 84 = .ok (.bipush 6, 2) := by decide +kernel
theorem dX5_copyFrom_86 : decode cX5_copyFrom 86 = .ok (.if_icmp .gt 22, 3) := by decide +kernel
theorem dX5_copyFrom_89 : decode cX5_copyFrom 89 = .ok (.aload_n 0, 1) := by decide +kernel
theorem dX5_copyFrom_90 : decode cX5_copyFrom 90 = .ok (.iload_n 2, 1) := by decide +kernel
theorem dX5_copyFrom_91 : decode cX5_copyFrom 91 = .ok (.invokevirtual 93, 3) := by decide +kernel
theorem dX5_copyFrom_94 : decode cX5_copyFrom 94 = .ok (.aload_n 1, 1) := by decide +kernel
theorem dX5_copyFrom_95 : decode cX5_copyFrom 95 = .ok (.iload_n 2, 1) := by decide +kernel
theorem dX5_copyFrom_96 : decode cX5_copyFrom 96 = .ok (.invokevirtual 93, 3) := by decide +kernel
theorem dX5_copyFrom_99 : decode cX5_copyFrom 99 = .ok (.invokevirtual 97, 3) := by decide +kernel
theorem dX5_copyFrom_102 : decode cX5_copyFrom 102 = .ok (.iinc 2 1, 3) := by decide +kernel
theorem dX5_copyFrom_105 : decode cX5_copyFrom 105 = .ok (.goto (-22), 3) := by decide +kernel
theorem dX5_copyFrom_108 : decode cX5_copyFrom 108 = .ok (.aload_n 0, 1) := by decide +kernel
theorem dX5_copyFrom_109 : decode cX5_copyFrom 109 = .ok (.aload_n 1, 1) := by decide +kernel
theorem dX5_copyFrom_110 : decode cX5_copyFrom 110 = .ok (.invokevirtual 100, 3) := by decide +kernel
theorem dX5_copyFrom_113 : decode cX5_copyFrom 113 = .ok (.return_, 1) := by decide +kernel
theorem dX5_copyNumbersFrom_0 : decode cX5_copyNumbersFrom 0 = .ok (.aload_n 0, 1) := by decide +kernel
theorem dX5_copyNumbersFrom_1 : decode cX5_copyNumbersFrom 1 = .ok (.aload_n 1, 1) := by decide +kernel
theorem dX5_copyNumbersFrom_2 : decode cX5_copyNumbersFrom 2 = .ok (.getfield 83, 3) := by decide +kernel
theorem dX5_copyNumbersFrom_5 : decode cX5_copyNumbersFrom 5 = .ok (.putfield 83, 3) := by decide +kernel
theorem dX5_copyNumbersFrom_8 : decode cX5_copyNumbersFrom 8 = .ok (.aload_n 0, 1) := by decide +kernel
theorem dX5_copyNumbersFrom_9 : decode cX5_copyNumbersFrom 9 = .ok (.aload_n 1, 1) := by decide +kernel
theorem dX5_copyNumbersFrom_10 : decode cX5_copyNumbersFrom 10 = .ok (.getfield 104, 3) := by decide +kernel
theorem dX5_copyNumbersFrom_13 : decode cX5_copyNumbersFrom 13 = .ok (.putfield 104, 3) := by decide +kernel
theorem dX5_copyNumbersFrom_16 : decode cX5_copyNumbersFrom 16 = .ok (.aload_n 0, 1) := by decide +kernel
theorem dX5_copyNumbersFrom_17 : decode cX5_copyNumbersFrom 17 = .ok (.aload_n 1, 1) := by decide +kernel
theorem dX5_copyNumbersFrom_18 : decode cX5_copyNumbersFrom 18 = .ok (.getfield 9, 3) := by decide +kernel
theorem dX5_copyNumbersFrom_21 : decode cX5_copyNumbersFrom 21 = .ok (.putfield 9, 3) := by decide +kernel
theorem dX5_copyNumbersFrom_24 : decode cX5_copyNumbersFrom 24 = .ok (.aload_n 0, 1) := by decide +kernel
theorem dX5_copyNumbersFrom_25 : decode cX5_copyNumbersFrom 25 = .ok (.aload_n 1, 1) := by decide +kernel
theorem dX5_copyNumbersFrom_26 : decode cX5_copyNumbersFrom 26 = .ok (.getfield 15, 3) := by decide +kernel
theorem dX5_copyNumbersFrom_29 : decode cX5_copyNumbersFrom 29 = .ok (.putfield 15, 3) := by decide +kernel
theorem dX5_copyNumbersFrom_32 : decode cX5_copyNumbersFrom 32 = .ok (.aload_n 0, 1) := by decide +kernel
theorem dX5_copyNumbersFrom_33 : decode cX5_copyNumbersFrom 33 = .ok (.aload_n 1, 1) := by decide +kernel
theorem dX5_copyNumbersFrom_34 : decode cX5_copyNumbersFrom 34 = .ok (.getfield 18, 3) := by decide +kernel
theorem dX5_copyNumbersFrom_37 : decode cX5_copyNumbersFrom 37 = .ok (.putfield 18, 3) := by decide +kernel
theorem dX5_copyNumbersFrom_40 : decode cX5_copyNumbersFrom 40 = .ok (.aload_n 0, 1) := by decide +kernel
theorem dX5_copyNumbersFrom_41 : decode cX5_copyNumbersFrom 41 = .ok (.aload_n 1, 1) := by decide +kernel
theorem dX5_copyNumbersFrom_42 : decode cX5_copyNumbersFrom 42 = .ok (.getfield 21, 3) := by decide +kernel
theorem dX5_copyNumbersFrom_45 : decode cX5_copyNumbersFrom 45 = .ok (.putfield 21, 3) := by decide +kernel
theorem dX5_copyNumbersFrom_48 : decode cX5_copyNumbersFrom 48 = .ok (.aload_n 0, 1) := by decide +kernel
theorem dX5_copyNumbersFrom_49 : decode cX5_copyNumbersFrom 49 = .ok (.aload_n 1, 1) := by decide +kernel
theorem dX5_copyNumbersFrom_50 : decode cX5_copyNumbersFrom 50 = .ok (.getfield 107, 3) := by decide +kernel
theorem dX5_copyNumbersFrom_53 : decode cX5_copyNumbersFrom 53 = .ok (.putfield 107, 3) := by decide +kernel
theorem dX5_copyNumbersFrom_56 : decode cX5_copyNumbersFrom 56 = .ok (.aload_n 0, 1) := by decide +kernel
theorem dX5_copyNumbersFrom_57 : decode cX5_copyNumbersFrom 57 = .ok (.aload_n 1, 1) := by decide +kernel
theorem dX5_copyNumbersFrom_58 : decode cX5_copyNumbersFrom 58 = .ok (.getfield 110, 3) := by decide +kernel
theorem dX5_copyNumbersFrom_61 : decode cX5_copyNumbersFrom 61 = .ok (.putfield 110, 3) := by decide +kernel
theorem dX5_copyNumbersFrom_64 : decode cX5_copyNumbersFrom 64 = .ok (.aload_n 0, 1) := by decide +kernel
theorem dX5_copyNumbersFrom_65 : decode cX5_copyNumbersFrom 65 = .ok (.aload_n 1, 1) := by decide +kernel
theorem dX5_copyNumbersFrom_66 : decode cX5_copyNumbersFrom 66 = .ok (.getfield 113, 3) := by decide +kernel
theorem dX5_copyNumbersFrom_69 : decode cX5_copyNumbersFrom 69 = .ok (.putfield 113, 3) := by decide +kernel
theorem dX5_copyNumbersFrom_72 : decode cX5_copyNumbersFrom 72 = .ok (.aload_n 0, 1) := by decide +kernel
theorem dX5_copyNumbersFrom_73 : decode cX5_copyNumbersFrom 73 = .ok (.aload_n 1, 1) := by decide +kernel
theorem dX5_copyNumbersFrom_74 : decode cX5_copyNumbersFrom 74 = .ok (.getfield 116, 3) := by decide +kernel
theorem dX5_copyNumbersFrom_77 : decode cX5_copyNumbersFrom 77 = .ok (.putfield 116, 3) := by decide +kernel
theorem dX5_copyNumbersFrom_80 : decode cX5_copyNumbersFrom 80 = .ok (.aload_n 0, 1) := by decide +kernel
theorem dX5_copyNumbersFrom_81 : decode cX5_copyNumbersFrom 81 = .ok (.aload_n 1, 1) := by decide +kernel
theorem dX5_copyNumbersFrom_82 : decode cX5_copyNumbersFrom 82 = .ok (.getfield 119, 3) := by decide +kernel
theorem dX5_copyNumbersFrom_85 : decode cX5_copyNumbersFrom 85 = .ok (.putfield 119, 3) := by decide +kernel
theorem dX5_copyNumbersFrom_88 : decode cX5_copyNumbersFrom 88 = .ok (.return_, 1) := by decide +kernel
theorem dX5_heatAt_0 : decode cX5_heatAt 0 = .ok (.iload_n 1, 1) := by decide +kernel
theorem dX5_heatAt_1 : decode cX5_heatAt 1 = .ok (.ifCond .lt 21, 3) := by decide +kernel
theorem dX5_heatAt_4 : decode cX5_heatAt 4 = .ok (.iload_n 1, 1) := by decide +kernel
theorem dX5_heatAt_5 : decode cX5_heatAt 5 = .ok (.aload_n 0, 1) := by decide +kernel
theorem dX5_heatAt_6 : decode cX5_heatAt 6 = .ok (.getfield 26, 3) := by decide +kernel
theorem dX5_heatAt_9 : decode cX5_heatAt 9 = .ok (.arraylength, 1) := by decide +kernel
theorem dX5_heatAt_10 : decode cX5_heatAt 10 = .ok (.if_icmp .ge 12, 3) := by decide +kernel
theorem dX5_heatAt_13 : decode cX5_heatAt 13 = .ok (.aload_n 0, 1) := by decide +kernel
theorem dX5_heatAt_14 : decode cX5_heatAt 14 = .ok (.getfield 26, 3) := by decide +kernel
theorem dX5_heatAt_17 : decode cX5_heatAt 17 = .ok (.iload_n 1, 1) := by decide +kernel
theorem dX5_heatAt_18 : decode cX5_heatAt 18 = .ok (.aaload, 1) := by decide +kernel
theorem dX5_heatAt_19 : decode cX5_heatAt 19 = .ok (.goto 4, 3) := by decide +kernel
theorem dX5_heatAt_22 : decode cX5_heatAt 22 = .ok (.aconst_null, 1) := by decide +kernel
theorem dX5_heatAt_23 : decode cX5_heatAt 23 = .ok (.astore_n 2, 1) := by decide +kernel
theorem dX5_heatAt_24 : decode cX5_heatAt 24 = .ok (.aload_n 2, 1) := by decide +kernel
theorem dX5_heatAt_25 : decode cX5_heatAt 25 = .ok (.ifnull 7, 3) := by decide +kernel
theorem dX5_heatAt_28 : decode cX5_heatAt 28 = .ok (.aload_n 2, 1) := by decide +kernel
theorem dX5_heatAt_29 : decode cX5_heatAt 29 = .ok (.goto 7, 3) := by decide +kernel
theorem dX5_heatAt_32 : decode cX5_heatAt 32 = .ok (.aload_n 0, 1) := by decide +kernel
theorem dX5_heatAt_33 : decode cX5_heatAt 33 = .ok (.getfield 56, 3) := by decide +kernel
theorem dX5_heatAt_36 : decode cX5_heatAt 36 = .ok (.areturn, 1) := by decide +kernel
theorem dX5_dieAt_0 : decode cX5_dieAt 0 = .ok (.iload_n 1, 1) := by decide +kernel
theorem dX5_dieAt_1 : decode cX5_dieAt 1 = .ok (.ifCond .lt 21, 3) := by decide +kernel
theorem dX5_dieAt_4 : decode cX5_dieAt 4 = .ok (.iload_n 1, 1) := by decide +kernel
theorem dX5_dieAt_5 : decode cX5_dieAt 5 = .ok (.aload_n 0, 1) := by decide +kernel
theorem dX5_dieAt_6 : decode cX5_dieAt 6 = .ok (.getfield 33, 3) := by decide +kernel
theorem dX5_dieAt_9 : decode cX5_dieAt 9 = .ok (.arraylength, 1) := by decide +kernel
theorem dX5_dieAt_10 : decode cX5_dieAt 10 = .ok (.if_icmp .ge 12, 3) := by decide +kernel
theorem dX5_dieAt_13 : decode cX5_dieAt 13 = .ok (.aload_n 0, 1) := by decide +kernel
theorem dX5_dieAt_14 : decode cX5_dieAt 14 = .ok (.getfield 33, 3) := by decide +kernel
theorem dX5_dieAt_17 : decode cX5_dieAt 17 = .ok (.iload_n 1, 1) := by decide +kernel
theorem dX5_dieAt_18 : decode cX5_dieAt 18 = .ok (.aaload, 1) := by decide +kernel
theorem dX5_dieAt_19 : decode cX5_dieAt 19 = .ok (.goto 4, 3) := by decide +kernel
theorem dX5_dieAt_22 : decode cX5_dieAt 22 = .ok (.aconst_null, 1) := by decide +kernel
theorem dX5_dieAt_23 : decode cX5_dieAt 23 = .ok (.astore_n 2, 1) := by decide +kernel
theorem dX5_dieAt_24 : decode cX5_dieAt 24 = .ok (.aload_n 2, 1) := by decide +kernel
theorem dX5_dieAt_25 : decode cX5_dieAt 25 = .ok (.ifnull 7, 3) := by decide +kernel
theorem dX5_dieAt_28 : decode cX5_dieAt 28 = .ok (.aload_n 2, 1) := by decide +kernel
theorem dX5_dieAt_29 : decode cX5_dieAt 29 = .ok (.goto 7, 3) := by decide +kernel
theorem dX5_dieAt_32 : decode cX5_dieAt 32 = .ok (.aload_n 0, 1) := by decide +kernel
theorem dX5_dieAt_33 : decode cX5_dieAt 33 = .ok (.getfield 60, 3) := by decide +kernel
theorem dX5_dieAt_36 : decode cX5_dieAt 36 = .ok (.areturn, 1) := by decide +kernel
theorem dX5_jobAt_0 : decode cX5_jobAt 0 = .ok (.iload_n 1, 1) := by decide +kernel
theorem dX5_jobAt_1 : decode cX5_jobAt 1 = .ok (.ifCond .lt 21, 3) := by decide +kernel
theorem dX5_jobAt_4 : decode cX5_jobAt 4 = .ok (.iload_n 1, 1) := by decide +kernel
theorem dX5_jobAt_5 : decode cX5_jobAt 5 = .ok (.aload_n 0, 1) := by decide +kernel
theorem dX5_jobAt_6 : decode cX5_jobAt 6 = .ok (.getfield 40, 3) := by decide +kernel
theorem dX5_jobAt_9 : decode cX5_jobAt 9 = .ok (.arraylength, 1) := by decide +kernel
theorem dX5_jobAt_10 : decode cX5_jobAt 10 = .ok (.if_icmp .ge 12, 3) := by decide +kernel
theorem dX5_jobAt_13 : decode cX5_jobAt 13 = .ok (.aload_n 0, 1) := by decide +kernel
theorem dX5_jobAt_14 : decode cX5_jobAt 14 = .ok (.getfield 40, 3) := by decide +kernel
theorem dX5_jobAt_17 : decode cX5_jobAt 17 = .ok (.iload_n 1, 1) := by decide +kernel
theorem dX5_jobAt_18 : decode cX5_jobAt 18 = .ok (.aaload, 1) := by decide +kernel
theorem dX5_jobAt_19 : decode cX5_jobAt 19 = .ok (.goto 4, 3) := by decide +kernel
theorem dX5_jobAt_22 : decode cX5_jobAt 22 = .ok (.aconst_null, 1) := by decide +kernel
theorem dX5_jobAt_23 : decode cX5_jobAt 23 = .ok (.astore_n 2, 1) := by decide +kernel
theorem dX5_jobAt_24 : decode cX5_jobAt 24 = .ok (.aload_n 2, 1) := by decide +kernel
theorem dX5_jobAt_25 : decode cX5_jobAt 25 = .ok (.ifnull 7, 3) := by decide +kernel
theorem dX5_jobAt_28 : decode cX5_jobAt 28 = .ok (.aload_n 2, 1) := by decide +kernel
theorem dX5_jobAt_29 : decode cX5_jobAt 29 = .ok (.goto 7, 3) := by decide +kernel
theorem dX5_jobAt_32 : decode cX5_jobAt 32 = .ok (.aload_n 0, 1) := by decide +kernel
theorem dX5_jobAt_33 : decode cX5_jobAt 33 = .ok (.getfield 64, 3) := by decide +kernel
theorem dX5_jobAt_36 : decode cX5_jobAt 36 = .ok (.areturn, 1) := by decide +kernel
theorem dX5_billetAt_0 : decode cX5_billetAt 0 = .ok (.iload_n 1, 1) := by decide +kernel
theorem dX5_billetAt_1 : decode cX5_billetAt 1 = .ok (.ifCond .lt 21, 3) := by decide +kernel
theorem dX5_billetAt_4 : decode cX5_billetAt 4 = .ok (.iload_n 1, 1) := by decide +kernel
theorem dX5_billetAt_5 : decode cX5_billetAt 5 = .ok (.aload_n 0, 1) := by decide +kernel
theorem dX5_billetAt_6 : decode cX5_billetAt 6 = .ok (.getfield 47, 3) := by decide +kernel
theorem dX5_billetAt_9 : decode cX5_billetAt 9 = .ok (.arraylength, 1) := by decide +kernel
theorem dX5_billetAt_10 : decode cX5_billetAt 10 = .ok (.if_icmp .ge 12, 3) := by decide +kernel
theorem dX5_billetAt_13 : decode cX5_billetAt 13 = .ok (.aload_n 0, 1) := by decide +kernel
theorem dX5_billetAt_14 : decode cX5_billetAt 14 = .ok (.getfield 47, 3) := by decide +kernel
theorem dX5_billetAt_17 : decode cX5_billetAt 17 = .ok (.iload_n 1, 1) := by decide +kernel
theorem dX5_billetAt_18 : decode cX5_billetAt 18 = .ok (.aaload, 1) := by decide +kernel
theorem dX5_billetAt_19 : decode cX5_billetAt 19 = .ok (.goto 4, 3) := by decide +kernel
theorem dX5_billetAt_22 : decode cX5_billetAt 22 = .ok (.aconst_null, 1) := by decide +kernel
theorem dX5_billetAt_23 : decode cX5_billetAt 23 = .ok (.astore_n 2, 1) := by decide +kernel
theorem dX5_billetAt_24 : decode cX5_billetAt 24 = .ok (.aload_n 2, 1) := by decide +kernel
theorem dX5_billetAt_25 : decode cX5_billetAt 25 = .ok (.ifnull 7, 3) := by decide +kernel
theorem dX5_billetAt_28 : decode cX5_billetAt 28 = .ok (.aload_n 2, 1) := by decide +kernel
theorem dX5_billetAt_29 : decode cX5_billetAt 29 = .ok (.goto 7, 3) := by decide +kernel
theorem dX5_billetAt_32 : decode cX5_billetAt 32 = .ok (.aload_n 0, 1) := by decide +kernel
theorem dX5_billetAt_33 : decode cX5_billetAt 33 = .ok (.getfield 52, 3) := by decide +kernel
theorem dX5_billetAt_36 : decode cX5_billetAt 36 = .ok (.areturn, 1) := by decide +kernel
theorem dX5_addJob_0 : decode cX5_addJob 0 = .ok (.aload_n 0, 1) := by decide +kernel
theorem dX5_addJob_1 : decode cX5_addJob 1 = .ok (.aload_n 0, 1) := by decide +kernel
theorem dX5_addJob_2 : decode cX5_addJob 2 = .ok (.getfield 83, 3) := by decide +kernel
theorem dX5_addJob_5 : decode cX5_addJob 5 = .ok (.invokevirtual 86, 3) := by decide +kernel
theorem dX5_addJob_8 : decode cX5_addJob 8 = .ok (.astore 6, 2) := by decide +kernel
theorem dX5_addJob_10 : decode cX5_addJob 10 = .ok (.aload 6, 2) := by decide +kernel
theorem dX5_addJob_12 : decode cX5_addJob 12 = .ok (.aload_n 0, 1) := by decide +kernel
theorem dX5_addJob_13 : decode cX5_addJob 13 = .ok (.getfield 104, 3) := by decide +kernel
theorem dX5_addJob_16 : decode cX5_addJob 16 = .ok (.putfield 122, 3) := by decide +kernel
theorem dX5_addJob_19 : decode cX5_addJob 19 = .ok (.aload 6, 2) := by decide +kernel
theorem dX5_addJob_21 : decode cX5_addJob 21 = .ok (.iload_n 1, 1) := by decide +kernel
theorem dX5_addJob_22 : decode cX5_addJob 22 = .ok (.putfield 125, 3) := by decide +kernel
theorem dX5_addJob_25 : decode cX5_addJob 25 = .ok (.aload 6, 2) := by decide +kernel
theorem dX5_addJob_27 : decode cX5_addJob 27 = .ok (.iload_n 2, 1) := by decide +kernel
theorem dX5_addJob_28 : decode cX5_addJob 28 = .ok (.putfield 128, 3) := by decide +kernel
theorem dX5_addJob_31 : decode cX5_addJob 31 = .ok (.aload 6, 2) := by decide +kernel
theorem dX5_addJob_33 : decode cX5_addJob 33 = .ok (.iload_n 3, 1) := by decide +kernel
theorem dX5_addJob_34 : decode cX5_addJob 34 = .ok (.putfield 131, 3) := by decide +kernel
theorem dX5_addJob_37 : decode cX5_addJob 37 = .ok (.aload 6, 2) := by decide +kernel
theorem dX5_addJob_39 : decode cX5_addJob 39 = .ok (.iconst 0, 1) := by decide +kernel
theorem dX5_addJob_40 : decode cX5_addJob 40 = .ok (.putfield 134, 3) := by decide +kernel
theorem dX5_addJob_43 : decode cX5_addJob 43 = .ok (.aload 6, 2) := by decide +kernel
theorem dX5_addJob_45 : decode cX5_addJob 45 = .ok (.iload 4, 2) := by decide +kernel
theorem dX5_addJob_47 : decode cX5_addJob 47 = .ok (.putfield 137, 3) := by decide +kernel
theorem dX5_addJob_50 : decode cX5_addJob 50 = .ok (.aload 6, 2) := by decide +kernel
theorem dX5_addJob_52 : decode cX5_addJob 52 = .ok (.iload 5, 2) := by decide +kernel
theorem dX5_addJob_54 : decode cX5_addJob 54 = .ok (.putfield 140, 3) := by decide +kernel
theorem dX5_addJob_57 : decode cX5_addJob 57 = .ok (.aload 6, 2) := by decide +kernel
theorem dX5_addJob_59 : decode cX5_addJob 59 = .ok (.iconst 0, 1) := by decide +kernel
theorem dX5_addJob_60 : decode cX5_addJob 60 = .ok (.putfield 144, 3) := by decide +kernel
theorem dX5_addJob_63 : decode cX5_addJob 63 = .ok (.aload_n 0, 1) := by decide +kernel
theorem dX5_addJob_64 : decode cX5_addJob 64 = .ok (.dup, 1) := by decide +kernel
theorem dX5_addJob_65 : decode cX5_addJob 65 = .ok (.getfield 104, 3) := by decide +kernel
theorem dX5_addJob_68 : decode cX5_addJob 68 = .ok (.iconst 1, 1) := by decide +kernel
theorem dX5_addJob_69 : decode cX5_addJob 69 = .ok (.iadd, 1) := by decide +kernel
theorem dX5_addJob_70 : decode cX5_addJob 70 = .ok (.putfield 104, 3) := by decide +kernel
theorem dX5_addJob_73 : decode cX5_addJob 73 = .ok (.aload_n 0, 1) := by decide +kernel
theorem dX5_addJob_74 : decode cX5_addJob 74 = .ok (.dup, 1) := by decide +kernel
theorem dX5_addJob_75 : decode cX5_addJob 75 = .ok (.getfield 83, 3) := by decide +kernel
theorem dX5_addJob_78 : decode cX5_addJob 78 = .ok (.iconst 1, 1) := by decide +kernel
theorem dX5_addJob_79 : decode cX5_addJob 79 = .ok (.iadd, 1) := by decide +kernel
theorem dX5_addJob_80 : decode cX5_addJob 80 = .ok (.putfield 83, 3) := by decide +kernel
theorem dX5_addJob_83 : decode cX5_addJob 83 = .ok (.aload_n 0, 1) := by decide +kernel
theorem dX5_addJob_84 : decode cX5_addJob 84 = .ok (.aload_n 0, 1) := by decide +kernel
theorem dX5_addJob_85 : decode cX5_addJob 85 = .ok (.getfield 83, 3) := by decide +kernel
theorem dX5_addJob_88 : decode cX5_addJob 88 = .ok (.iconst 1, 1) := by decide +kernel
theorem dX5_addJob_89 : decode cX5_addJob 89 = .ok (.isub, 1) := by decide +kernel
theorem dX5_addJob_90 : decode cX5_addJob 90 = .ok (.invokevirtual 147, 3) := by decide +kernel
theorem dX5_addJob_93 : decode cX5_addJob 93 = .ok (.pop, 1) := by decide +kernel
theorem dX5_addJob_94 : decode cX5_addJob 94 = .ok (.aload 6, 2) := by decide +kernel
theorem dX5_addJob_96 : decode cX5_addJob 96 = .ok (.getfield 122, 3) := by decide +kernel
theorem dX5_addJob_99 : decode cX5_addJob 99 = .ok (.ireturn, 1) := by decide +kernel
theorem dX5_hasten_0 : decode cX5_hasten 0 = .ok (.aload_n 0, 1) := by decide +kernel
theorem dX5_hasten_1 : decode cX5_hasten 1 = .ok (.iload_n 1, 1) := by decide +kernel
theorem dX5_hasten_2 : decode cX5_hasten 2 = .ok (.invokevirtual 86, 3) := by decide +kernel
theorem dX5_hasten_5 : decode cX5_hasten 5 = .ok (.iload_n 2, 1) := by decide +kernel
theorem dX5_hasten_6 : decode cX5_hasten 6 = .ok (.putfield 140, 3) := by decide +kernel
theorem dX5_hasten_9 : decode cX5_hasten 9 = .ok (.aload_n 0, 1) := by decide +kernel
theorem dX5_hasten_10 : decode cX5_hasten 10 = .ok (.iload_n 1, 1) := by decide +kernel
theorem dX5_hasten_11 : decode cX5_hasten 11 = .ok (.invokevirtual 147, 3) := by decide +kernel
theorem dX5_hasten_14 : decode cX5_hasten 14 = .ok (.ireturn, 1) := by decide +kernel
theorem dX5_settle_0 : decode cX5_settle 0 = .ok (.iload_n 1, 1) := by decide +kernel
theorem dX5_settle_1 : decode cX5_settle 1 = .ok (.istore_n 2, 1) := by decide +kernel
theorem dX5_settle_2 : decode cX5_settle 2 = .ok (.iload_n 2, 1) := by decide +kernel
theorem dX5_settle_3 : decode cX5_settle 3 = .ok (.ifCond .le 35, 3) := by decide +kernel
theorem dX5_settle_6 : decode cX5_settle 6 = .ok (.aload_n 0, 1) := by decide +kernel
theorem dX5_settle_7 : decode cX5_settle 7 = .ok (.iload_n 2, 1) := by decide +kernel
theorem dX5_settle_8 : decode cX5_settle 8 = .ok (.invokevirtual 86, 3) := by decide +kernel
theorem dX5_settle_11 : decode cX5_settle 11 = .ok (.aload_n 0, 1) := by decide +kernel
theorem dX5_settle_12 : decode cX5_settle 12 = .ok (.iload_n 2, 1) := by decide +kernel
theorem dX5_settle_13 : decode cX5_settle 13 = .ok (.iconst 1, 1) := by decide +kernel
theorem dX5_settle_14 : decode cX5_settle 14 = .ok (.isub, 1) := by decide +kernel
theorem dX5_settle_15 : decode cX5_settle 15 = .ok (.invokevirtual 86, 3) := by decide +kernel
theorem dX5_settle_18 : decode cX5_settle 18 = .ok (.invokevirtual 151, 3) := by decide +kernel
theorem dX5_settle_21 : decode cX5_settle 21 = .ok (.ifCond .eq 17, 3) := by decide +kernel
theorem dX5_settle_24 : decode cX5_settle 24 = .ok (.aload_n 0, 1) := by decide +kernel
theorem dX5_settle_25 : decode cX5_settle 25 = .ok (.iload_n 2, 1) := by decide +kernel
theorem dX5_settle_26 : decode cX5_settle 26 = .ok (.iload_n 2, 1) := by decide +kernel
theorem dX5_settle_27 : decode cX5_settle 27 = .ok (.iconst 1, 1) := by decide +kernel
theorem dX5_settle_28 : decode cX5_settle 28 = .ok (.isub, 1) := by decide +kernel
theorem dX5_settle_29 : decode cX5_settle 29 = .ok (.invokevirtual 155, 3) := by decide +kernel
theorem dX5_settle_32 : decode cX5_settle 32 = .ok (.iinc 2 (-1), 3) := by decide +kernel
theorem dX5_settle_35 : decode cX5_settle 35 = .ok (.goto (-33), 3) := by decide +kernel
theorem dX5_settle_38 : decode cX5_settle 38 = .ok (.iload_n 2, 1) := by decide +kernel
theorem dX5_settle_39 : decode cX5_settle 39 = .ok (.aload_n 0, 1) := by decide +kernel
theorem dX5_settle_40 : decode cX5_settle 40 = .ok (.getfield 83, 3) := by decide +kernel
theorem dX5_settle_43 : decode cX5_settle 43 = .ok (.iconst 1, 1) := by decide +kernel
theorem dX5_settle_44 : decode cX5_settle 44 = .ok (.isub, 1) := by decide +kernel
theorem dX5_settle_45 : decode cX5_settle 45 = .ok (.if_icmp .ge 35, 3) := by decide +kernel
theorem dX5_settle_48 : decode cX5_settle 48 = .ok (.aload_n 0, 1) := by decide +kernel
theorem dX5_settle_49 : decode cX5_settle 49 = .ok (.iload_n 2, 1) := by decide +kernel
theorem dX5_settle_50 : decode cX5_settle 50 = .ok (.iconst 1, 1) := by decide +kernel
theorem dX5_settle_51 : decode cX5_settle 51 = .ok (.iadd, 1) := by decide +kernel
theorem dX5_settle_52 : decode cX5_settle 52 = .ok (.invokevirtual 86, 3) := by decide +kernel
theorem dX5_settle_55 : decode cX5_settle 55 = .ok (.aload_n 0, 1) := by decide +kernel
theorem dX5_settle_56 : decode cX5_settle 56 = .ok (.iload_n 2, 1) := by decide +kernel
theorem dX5_settle_57 : decode cX5_settle 57 = .ok (.invokevirtual 86, 3) := by decide +kernel
theorem dX5_settle_60 : decode cX5_settle 60 = .ok (.invokevirtual 151, 3) := by decide +kernel
theorem dX5_settle_63 : decode cX5_settle 63 = .ok (.ifCond .eq 17, 3) := by decide +kernel
theorem dX5_settle_66 : decode cX5_settle 66 = .ok (.aload_n 0, 1) := by decide +kernel
theorem dX5_settle_67 : decode cX5_settle 67 = .ok (.iload_n 2, 1) := by decide +kernel
theorem dX5_settle_68 : decode cX5_settle 68 = .ok (.iload_n 2, 1) := by decide +kernel
theorem dX5_settle_69 : decode cX5_settle 69 = .ok (.iconst 1, 1) := by decide +kernel
theorem dX5_settle_70 : decode cX5_settle 70 = .ok (.iadd, 1) := by decide +kernel
theorem dX5_settle_71 : decode cX5_settle 71 = .ok (.invokevirtual 155, 3) := by decide +kernel
theorem dX5_settle_74 : decode cX5_settle 74 = .ok (.iinc 2 1, 3) := by decide +kernel
theorem dX5_settle_77 : decode cX5_settle 77 = .ok (.goto (-39), 3) := by decide +kernel
theorem dX5_settle_80 : decode cX5_settle 80 = .ok (.iload_n 2, 1) := by decide +kernel
theorem dX5_settle_81 : decode cX5_settle 81 = .ok (.ireturn, 1) := by decide +kernel
theorem dX5_swapJobs_0 : decode cX5_swapJobs 0 = .ok (.iload_n 1, 1) := by decide +kernel
theorem dX5_swapJobs_1 : decode cX5_swapJobs 1 = .ok (.ifCond .lt 51, 3) := by decide +kernel
theorem dX5_swapJobs_4 : decode cX5_swapJobs 4 = .ok (.iload_n 1, 1) := by decide +kernel
theorem dX5_swapJobs_5 : decode cX5_swapJobs 5 = .ok (.aload_n 0, 1) := by decide +kernel
theorem dX5_swapJobs_6 : decode cX5_swapJobs 6 = .ok (.getfield 40, 3) := by decide +kernel
theorem dX5_swapJobs_9 : decode cX5_swapJobs 9 = .ok (.arraylength, 1) := by decide +kernel
theorem dX5_swapJobs_10 : decode cX5_swapJobs 10 = .ok (.if_icmp .ge 42, 3) := by decide +kernel
theorem dX5_swapJobs_13 : decode cX5_swapJobs 13 = .ok (.iload_n 2, 1) := by decide +kernel
theorem dX5_swapJobs_14 : decode cX5_swapJobs 14 = .ok (.ifCond .lt 38, 3) := by decide +kernel
theorem dX5_swapJobs_17 : decode cX5_swapJobs 17 = .ok (.iload_n 2, 1) := by decide +kernel
theorem dX5_swapJobs_18 : decode cX5_swapJobs 18 = .ok (.aload_n 0, 1) := by decide +kernel
theorem dX5_swapJobs_19 : decode cX5_swapJobs 19 = .ok (.getfield 40, 3) := by decide +kernel
theorem dX5_swapJobs_22 : decode cX5_swapJobs 22 = .ok (.arraylength, 1) := by decide +kernel
theorem dX5_swapJobs_23 : decode cX5_swapJobs 23 = .ok (.if_icmp .ge 29, 3) := by decide +kernel
theorem dX5_swapJobs_26 : decode cX5_swapJobs 26 = .ok (.aload_n 0, 1) := by decide +kernel
theorem dX5_swapJobs_27 : decode cX5_swapJobs 27 = .ok (.getfield 40, 3) := by decide +kernel
theorem dX5_swapJobs_30 : decode cX5_swapJobs 30 = .ok (.iload_n 1, 1) := by decide +kernel
theorem dX5_swapJobs_31 : decode cX5_swapJobs 31 = .ok (.aaload, 1) := by decide +kernel
theorem dX5_swapJobs_32 : decode cX5_swapJobs 32 = .ok (.astore_n 3, 1) := by decide +kernel
theorem dX5_swapJobs_33 : decode cX5_swapJobs 33 = .ok (.aload_n 0, 1) := by decide +kernel
theorem dX5_swapJobs_34 : decode cX5_swapJobs 34 = .ok (.getfield 40, 3) := by decide +kernel
theorem dX5_swapJobs_37 : decode cX5_swapJobs 37 = .ok (.iload_n 1, 1) := by decide +kernel
theorem dX5_swapJobs_38 : decode cX5_swapJobs 38 = .ok (.aload_n 0, 1) := by decide +kernel
theorem dX5_swapJobs_39 : decode cX5_swapJobs 39 = .ok (.getfield 40, 3) := by decide +kernel
theorem dX5_swapJobs_42 : decode cX5_swapJobs 42 = .ok (.iload_n 2, 1) := by decide +kernel
theorem dX5_swapJobs_43 : decode cX5_swapJobs 43 = .ok (.aaload, 1) := by decide +kernel
theorem dX5_swapJobs_44 : decode cX5_swapJobs 44 = .ok (.aastore, 1) := by decide +kernel
theorem dX5_swapJobs_45 : decode cX5_swapJobs 45 = .ok (.aload_n 0, 1) := by decide +kernel
theorem dX5_swapJobs_46 : decode cX5_swapJobs 46 = .ok (.getfield 40, 3) := by decide +kernel
theorem dX5_swapJobs_49 : decode cX5_swapJobs 49 = .ok (.iload_n 2, 1) := by decide +kernel
theorem dX5_swapJobs_50 : decode cX5_swapJobs 50 = .ok (.aload_n 3, 1) := by decide +kernel
theorem dX5_swapJobs_51 : decode cX5_swapJobs 51 = .ok (.aastore, 1) := by decide +kernel
theorem dX5_swapJobs_52 : decode cX5_swapJobs 52 = .ok (.return_, 1) := by decide +kernel
theorem dX5_placeOf_0 : decode cX5_placeOf 0 = .ok (.iconst 0, 1) := by decide +kernel
theorem dX5_placeOf_1 : decode cX5_placeOf 1 = .ok (.istore_n 2, 1) := by decide +kernel
theorem dX5_placeOf_2 : decode cX5_placeOf 2 = .ok (.iload_n 2, 1) := by decide +kernel
theorem dX5_placeOf_3 : decode cX5_placeOf 3 = .ok (.aload_n 0, 1) := by decide +kernel
theorem dX5_placeOf_4 : decode cX5_placeOf 4 = .ok (.getfield 83, 3) := by decide +kernel
theorem dX5_placeOf_7 : decode cX5_placeOf 7 = .ok (.if_icmp .ge 23, 3) := by decide +kernel
theorem dX5_placeOf_10 : decode cX5_placeOf 10 = .ok (.aload_n 0, 1) := by decide +kernel
theorem dX5_placeOf_11 : decode cX5_placeOf 11 = .ok (.iload_n 2, 1) := by decide +kernel
theorem dX5_placeOf_12 : decode cX5_placeOf 12 = .ok (.invokevirtual 86, 3) := by decide +kernel
theorem dX5_placeOf_15 : decode cX5_placeOf 15 = .ok (.getfield 122, 3) := by decide +kernel
theorem dX5_placeOf_18 : decode cX5_placeOf 18 = .ok (.iload_n 1, 1) := by decide +kernel
theorem dX5_placeOf_19 : decode cX5_placeOf 19 = .ok (.if_icmp .ne 5, 3) := by decide +kernel
theorem dX5_placeOf_22 : decode cX5_placeOf 22 = .ok (.iload_n 2, 1) := by decide +kernel
theorem dX5_placeOf_23 : decode cX5_placeOf 23 = .ok (.ireturn, 1) := by decide +kernel
theorem dX5_placeOf_24 : decode cX5_placeOf 24 = .ok (.iinc 2 1, 3) := by decide +kernel
theorem dX5_placeOf_27 : decode cX5_placeOf 27 = .ok (.goto (-25), 3) := by decide +kernel
theorem dX5_placeOf_30 : decode cX5_placeOf 30 = .ok (.iconst (-1), 1) := by decide +kernel
theorem dX5_placeOf_31 : decode cX5_placeOf 31 = .ok (.ireturn, 1) := by decide +kernel
theorem dX5_removeJob_0 : decode cX5_removeJob 0 = .ok (.aload_n 0, 1) := by decide +kernel
theorem dX5_removeJob_1 : decode cX5_removeJob 1 = .ok (.dup, 1) := by decide +kernel
theorem dX5_removeJob_2 : decode cX5_removeJob 2 = .ok (.getfield 83, 3) := by decide +kernel
theorem dX5_removeJob_5 : decode cX5_removeJob 5 = .ok (.iconst 1, 1) := by decide +kernel
theorem dX5_removeJob_6 : decode cX5_removeJob 6 = .ok (.isub, 1) := by decide +kernel
theorem dX5_removeJob_7 : decode cX5_removeJob 7 = .ok (.putfield 83, 3) := by decide +kernel
theorem dX5_removeJob_10 : decode cX5_removeJob 10 = .ok (.iload_n 1, 1) := by decide +kernel
theorem dX5_removeJob_11 : decode cX5_removeJob 11 = .ok (.istore_n 2, 1) := by decide +kernel
theorem dX5_removeJob_12 : decode cX5_removeJob 12 = .ok (.iload_n 2, 1) := by decide +kernel
theorem dX5_removeJob_13 : decode cX5_removeJob 13 = .ok (.aload_n 0, 1) := by decide +kernel
theorem dX5_removeJob_14 : decode cX5_removeJob 14 = .ok (.getfield 83, 3) := by decide +kernel
theorem dX5_removeJob_17 : decode cX5_removeJob 17 = .ok (.if_icmp .ge 17, 3) := by decide +kernel
theorem dX5_removeJob_20 : decode cX5_removeJob 20 = .ok (.aload_n 0, 1) := by decide +kernel
theorem dX5_removeJob_21 : decode cX5_removeJob 21 = .ok (.iload_n 2, 1) := by decide +kernel
theorem dX5_removeJob_22 : decode cX5_removeJob 22 = .ok (.iload_n 2, 1) := by decide +kernel
theorem dX5_removeJob_23 : decode cX5_removeJob 23 = .ok (.iconst 1, 1) := by decide +kernel
theorem dX5_removeJob_24 : decode cX5_removeJob 24 = .ok (.iadd, 1) := by decide +kernel
theorem dX5_removeJob_25 : decode cX5_removeJob 25 = .ok (.invokevirtual 155, 3) := by decide +kernel
theorem dX5_removeJob_28 : decode cX5_removeJob 28 = .ok (.iinc 2 1, 3) := by decide +kernel
theorem dX5_removeJob_31 : decode cX5_removeJob 31 = .ok (.goto (-19), 3) := by decide +kernel
theorem dX5_removeJob_34 : decode cX5_removeJob 34 = .ok (.return_, 1) := by decide +kernel
theorem dX5_dropJob_0 : decode cX5_dropJob 0 = .ok (.aload_n 0, 1) := by decide +kernel
theorem dX5_dropJob_1 : decode cX5_dropJob 1 = .ok (.iload_n 1, 1) := by decide +kernel
theorem dX5_dropJob_2 : decode cX5_dropJob 2 = .ok (.invokevirtual 86, 3) := by decide +kernel
theorem dX5_dropJob_5 : decode cX5_dropJob 5 = .ok (.astore_n 2, 1) := by decide +kernel
theorem dX5_dropJob_6 : decode cX5_dropJob 6 = .ok (.iconst 0, 1) := by decide +kernel
theorem dX5_dropJob_7 : decode cX5_dropJob 7 = .ok (.istore_n 3, 1) := by decide +kernel
theorem dX5_dropJob_8 : decode cX5_dropJob 8 = .ok (.iload_n 3, 1) := by decide +kernel
theorem dX5_dropJob_9 : decode cX5_dropJob 9 = .ok (.bipush 6, 2) := by decide +kernel
theorem dX5_dropJob_11 : decode cX5_dropJob 11 = .ok (.if_icmp .gt 34, 3) := by decide +kernel
theorem dX5_dropJob_14 : decode cX5_dropJob 14 = .ok (.aload_n 0, 1) := by decide +kernel
theorem dX5_dropJob_15 : decode cX5_dropJob 15 = .ok (.iload_n 3, 1) := by decide +kernel
theorem dX5_dropJob_16 : decode cX5_dropJob 16 = .ok (.invokevirtual 93, 3) := by decide +kernel
theorem dX5_dropJob_19 : decode cX5_dropJob 19 = .ok (.astore 4, 2) := by decide +kernel
theorem dX5_dropJob_21 : decode cX5_dropJob 21 = .ok (.aload 4, 2) := by decide +kernel
theorem dX5_dropJob_23 : decode cX5_dropJob 23 = .ok (.getfield 159, 3) := by decide +kernel
theorem dX5_dropJob_26 : decode cX5_dropJob 26 = .ok (.aload_n 2, 1) := by decide +kernel
theorem dX5_dropJob_27 : decode cX5_dropJob 27 = .ok (.getfield 122, 3) := by decide +kernel
theorem dX5_dropJob_30 : decode cX5_dropJob 30 = .ok (.if_icmp .ne 9, 3) := by decide +kernel
theorem dX5_dropJob_33 : decode cX5_dropJob 33 = .ok (.aload 4, 2) := by decide +kernel
theorem dX5_dropJob_35 : decode cX5_dropJob 35 = .ok (.iconst (-1), 1) := by decide +kernel
theorem dX5_dropJob_36 : decode cX5_dropJob 36 = .ok (.putfield 159, 3) := by decide +kernel
theorem dX5_dropJob_39 : decode cX5_dropJob 39 = .ok (.iinc 3 1, 3) := by decide +kernel
theorem dX5_dropJob_42 : decode cX5_dropJob 42 = .ok (.goto (-34), 3) := by decide +kernel
theorem dX5_dropJob_45 : decode cX5_dropJob 45 = .ok (.aload_n 0, 1) := by decide +kernel
theorem dX5_dropJob_46 : decode cX5_dropJob 46 = .ok (.aload_n 2, 1) := by decide +kernel
theorem dX5_dropJob_47 : decode cX5_dropJob 47 = .ok (.getfield 128, 3) := by decide +kernel
theorem dX5_dropJob_50 : decode cX5_dropJob 50 = .ok (.invokevirtual 68, 3) := by decide +kernel
theorem dX5_dropJob_53 : decode cX5_dropJob 53 = .ok (.dup, 1) := by decide +kernel
theorem dX5_dropJob_54 : decode cX5_dropJob 54 = .ok (.getfield 162, 3) := by decide +kernel
theorem dX5_dropJob_57 : decode cX5_dropJob 57 = .ok (.aload_n 2, 1) := by decide +kernel
theorem dX5_dropJob_58 : decode cX5_dropJob 58 = .ok (.getfield 144, 3) := by decide +kernel
theorem dX5_dropJob_61 : decode cX5_dropJob 61 = .ok (.iadd, 1) := by decide +kernel
theorem dX5_dropJob_62 : decode cX5_dropJob 62 = .ok (.putfield 162, 3) := by decide +kernel
theorem dX5_dropJob_65 : decode cX5_dropJob 65 = .ok (.aload_n 0, 1) := by decide +kernel
theorem dX5_dropJob_66 : decode cX5_dropJob 66 = .ok (.iload_n 1, 1) := by decide +kernel
theorem dX5_dropJob_67 : decode cX5_dropJob 67 = .ok (.invokevirtual 165, 3) := by decide +kernel
theorem dX5_dropJob_70 : decode cX5_dropJob 70 = .ok (.aload_n 2, 1) := by decide +kernel
theorem dX5_dropJob_71 : decode cX5_dropJob 71 = .ok (.getfield 144, 3) := by decide +kernel
theorem dX5_dropJob_74 : decode cX5_dropJob 74 = .ok (.ireturn, 1) := by decide +kernel
theorem dX5_valueOf_0 : decode cX5_valueOf 0 = .ok (.iload_n 1, 1) := by decide +kernel
theorem dX5_valueOf_1 : decode cX5_valueOf 1 = .ok (.tableswitch 42 0 2 #[27, 32, 37], 27) := by decide +kernel
theorem dX5_valueOf_28 : decode cX5_valueOf 28 = .ok (.aload_n 0, 1) := by decide +kernel
theorem dX5_valueOf_29 : decode cX5_valueOf 29 = .ok (.getfield 9, 3) := by decide +kernel
theorem dX5_valueOf_32 : decode cX5_valueOf 32 = .ok (.ireturn, 1) := by decide +kernel
theorem dX5_valueOf_33 : decode cX5_valueOf 33 = .ok (.aload_n 0, 1) := by decide +kernel
theorem dX5_valueOf_34 : decode cX5_valueOf 34 = .ok (.getfield 15, 3) := by decide +kernel
theorem dX5_valueOf_37 : decode cX5_valueOf 37 = .ok (.ireturn, 1) := by decide +kernel
theorem dX5_valueOf_38 : decode cX5_valueOf 38 = .ok (.aload_n 0, 1) := by decide +kernel
theorem dX5_valueOf_39 : decode cX5_valueOf 39 = .ok (.getfield 18, 3) := by decide +kernel
theorem dX5_valueOf_42 : decode cX5_valueOf 42 = .ok (.ireturn, 1) := by decide +kernel
theorem dX5_valueOf_43 : decode cX5_valueOf 43 = .ok (.aload_n 0, 1) := by decide +kernel
theorem dX5_valueOf_44 : decode cX5_valueOf 44 = .ok (.getfield 21, 3) := by decide +kernel
theorem dX5_valueOf_47 : decode cX5_valueOf 47 = .ok (.ireturn, 1) := by decide +kernel
theorem dX5_putValue_0 : decode cX5_putValue 0 = .ok (.iload_n 1, 1) := by decide +kernel
theorem dX5_putValue_1 : decode cX5_putValue 1 = .ok (.tableswitch 51 0 2 #[27, 35, 43], 27) := by decide +kernel
theorem dX5_putValue_28 : decode cX5_putValue 28 = .ok (.aload_n 0, 1) := by decide +kernel
theorem dX5_putValue_29 : decode cX5_putValue 29 = .ok (.iload_n 2, 1) := by decide +kernel
theorem dX5_putValue_30 : decode cX5_putValue 30 = .ok (.putfield 9, 3) := by decide +kernel
theorem dX5_putValue_33 : decode cX5_putValue 33 = .ok (.goto 24, 3) := by decide +kernel
theorem dX5_putValue_36 : decode cX5_putValue 36 = .ok (.aload_n 0, 1) := by decide +kernel
theorem dX5_putValue_37 : decode cX5_putValue 37 = .ok (.iload_n 2, 1) := by decide +kernel
theorem dX5_putValue_38 : decode cX5_putValue 38 = .ok (.putfield 15, 3) := by decide +kernel
theorem dX5_putValue_41 : decode cX5_putValue 41 = .ok (.goto 16, 3) := by decide +kernel
theorem dX5_putValue_44 : decode cX5_putValue 44 = .ok (.aload_n 0, 1) := by decide +kernel
theorem dX5_putValue_45 : decode cX5_putValue 45 = .ok (.iload_n 2, 1) := by decide +kernel
theorem dX5_putValue_46 : decode cX5_putValue 46 = .ok (.putfield 18, 3) := by decide +kernel
theorem dX5_putValue_49 : decode cX5_putValue 49 = .ok (.goto 8, 3) := by decide +kernel
theorem dX5_putValue_52 : decode cX5_putValue 52 = .ok (.aload_n 0, 1) := by decide +kernel
theorem dX5_putValue_53 : decode cX5_putValue 53 = .ok (.iload_n 2, 1) := by decide +kernel
theorem dX5_putValue_54 : decode cX5_putValue 54 = .ok (.putfield 21, 3) := by decide +kernel
theorem dX5_putValue_57 : decode cX5_putValue 57 = .ok (.return_, 1) := by decide +kernel
theorem dX5_countMade_0 : decode cX5_countMade 0 = .ok (.iconst 0, 1) := by decide +kernel
theorem dX5_countMade_1 : decode cX5_countMade 1 = .ok (.istore_n 1, 1) := by decide +kernel
theorem dX5_countMade_2 : decode cX5_countMade 2 = .ok (.iconst 0, 1) := by decide +kernel
theorem dX5_countMade_3 : decode cX5_countMade 3 = .ok (.istore_n 2, 1) := by decide +kernel
theorem dX5_countMade_4 : decode cX5_countMade 4 = .ok (.iload_n 2, 1) := by decide +kernel
theorem dX5_countMade_5 : decode cX5_countMade 5 = .ok (.iconst 4, 1) := by decide +kernel
theorem dX5_countMade_6 : decode cX5_countMade 6 = .ok (.if_icmp .ge 20, 3) := by decide +kernel
theorem dX5_countMade_9 : decode cX5_countMade 9 = .ok (.iload_n 1, 1) := by decide +kernel
theorem dX5_countMade_10 : decode cX5_countMade 10 = .ok (.aload_n 0, 1) := by decide +kernel
theorem dX5_countMade_11 : decode cX5_countMade 11 = .ok (.iload_n 2, 1) := by decide +kernel
theorem dX5_countMade_12 : decode cX5_countMade 12 = .ok (.invokevirtual 68, 3) := by decide +kernel
theorem dX5_countMade_15 : decode cX5_countMade 15 = .ok (.getfield 169, 3) := by decide +kernel
theorem dX5_countMade_18 : decode cX5_countMade 18 = .ok (.iadd, 1) := by decide +kernel
theorem dX5_countMade_19 : decode cX5_countMade 19 = .ok (.istore_n 1, 1) := by decide +kernel
theorem dX5_countMade_20 : decode cX5_countMade 20 = .ok (.iinc 2 1, 3) := by decide +kernel
theorem dX5_countMade_23 : decode cX5_countMade 23 = .ok (.goto (-19), 3) := by decide +kernel
theorem dX5_countMade_26 : decode cX5_countMade 26 = .ok (.iload_n 1, 1) := by decide +kernel
theorem dX5_countMade_27 : decode cX5_countMade 27 = .ok (.ireturn, 1) := by decide +kernel
theorem dX5_countScrap_0 : decode cX5_countScrap 0 = .ok (.iconst 0, 1) := by decide +kernel
theorem dX5_countScrap_1 : decode cX5_countScrap 1 = .ok (.istore_n 1, 1) := by decide +kernel
theorem dX5_countScrap_2 : decode cX5_countScrap 2 = .ok (.iconst 0, 1) := by decide +kernel
theorem dX5_countScrap_3 : decode cX5_countScrap 3 = .ok (.istore_n 2, 1) := by decide +kernel
theorem dX5_countScrap_4 : decode cX5_countScrap 4 = .ok (.iload_n 2, 1) := by decide +kernel
theorem dX5_countScrap_5 : decode cX5_countScrap 5 = .ok (.iconst 4, 1) := by decide +kernel
theorem dX5_countScrap_6 : decode cX5_countScrap 6 = .ok (.if_icmp .ge 20, 3) := by decide +kernel
theorem dX5_countScrap_9 : decode cX5_countScrap 9 = .ok (.iload_n 1, 1) := by decide +kernel
theorem dX5_countScrap_10 : decode cX5_countScrap 10 = .ok (.aload_n 0, 1) := by decide +kernel
theorem dX5_countScrap_11 : decode cX5_countScrap 11 = .ok (.iload_n 2, 1) := by decide +kernel
theorem dX5_countScrap_12 : decode cX5_countScrap 12 = .ok (.invokevirtual 68, 3) := by decide +kernel
theorem dX5_countScrap_15 : decode cX5_countScrap 15 = .ok (.getfield 162, 3) := by decide +kernel
theorem dX5_countScrap_18 : decode cX5_countScrap 18 = .ok (.iadd, 1) := by decide +kernel
theorem dX5_countScrap_19 : decode cX5_countScrap 19 = .ok (.istore_n 1, 1) := by decide +kernel
theorem dX5_countScrap_20 : decode cX5_countScrap 20 = .ok (.iinc 2 1, 3) := by decide +kernel
theorem dX5_countScrap_23 : decode cX5_countScrap 23 = .ok (.goto (-19), 3) := by decide +kernel
theorem dX5_countScrap_26 : decode cX5_countScrap 26 = .ok (.iload_n 1, 1) := by decide +kernel
theorem dX5_countScrap_27 : decode cX5_countScrap 27 = .ok (.ireturn, 1) := by decide +kernel
theorem dX5_countRushJobs_0 : decode cX5_countRushJobs 0 = .ok (.iconst 0, 1) := by decide +kernel
theorem dX5_countRushJobs_1 : decode cX5_countRushJobs 1 = .ok (.istore_n 1, 1) := by decide +kernel
theorem dX5_countRushJobs_2 : decode cX5_countRushJobs 2 = .ok (.iconst 0, 1) := by decide +kernel
theorem dX5_countRushJobs_3 : decode cX5_countRushJobs 3 = .ok (.istore_n 2, 1) := by decide +kernel
theorem dX5_countRushJobs_4 : decode cX5_countRushJobs 4 = .ok (.iload_n 2, 1) := by decide +kernel
theorem dX5_countRushJobs_5 : decode cX5_countRushJobs 5 = .ok (.aload_n 0, 1) := by decide +kernel
theorem dX5_countRushJobs_6 : decode cX5_countRushJobs 6 = .ok (.getfield 83, 3) := by decide +kernel
theorem dX5_countRushJobs_9 : decode cX5_countRushJobs 9 = .ok (.if_icmp .ge 23, 3) := by decide +kernel
theorem dX5_countRushJobs_12 : decode cX5_countRushJobs 12 = .ok (.aload_n 0, 1) := by decide +kernel
theorem dX5_countRushJobs_13 : decode cX5_countRushJobs 13 = .ok (.iload_n 2, 1) := by decide +kernel
theorem dX5_countRushJobs_14 : decode cX5_countRushJobs 14 = .ok (.invokevirtual 86, 3) := by decide +kernel
theorem dX5_countRushJobs_17 : decode cX5_countRushJobs 17 = .ok (.getfield 140, 3) := by decide +kernel
theorem dX5_countRushJobs_20 : decode cX5_countRushJobs 20 = .ok (.ifCond .eq 6, 3) := by decide +kernel
theorem dX5_countRushJobs_23 : decode cX5_countRushJobs 23 = .ok (.iinc 1 1, 3) := by decide +kernel
theorem dX5_countRushJobs_26 : decode cX5_countRushJobs 26 = .ok (.iinc 2 1, 3) := by decide +kernel
theorem dX5_countRushJobs_29 : decode cX5_countRushJobs 29 = .ok (.goto (-25), 3) := by decide +kernel
theorem dX5_countRushJobs_32 : decode cX5_countRushJobs 32 = .ok (.iload_n 1, 1) := by decide +kernel
theorem dX5_countRushJobs_33 : decode cX5_countRushJobs 33 = .ok (.ireturn, 1) := by decide +kernel
theorem dX5_countInFurnace_0 : decode cX5_countInFurnace 0 = .ok (.iconst 0, 1) := by decide +kernel
theorem dX5_countInFurnace_1 : decode cX5_countInFurnace 1 = .ok (.istore_n 1, 1) := by decide +kernel
theorem dX5_countInFurnace_2 : decode cX5_countInFurnace 2 = .ok (.aload_n 0, 1) := by decide +kernel
theorem dX5_countInFurnace_3 : decode cX5_countInFurnace 3 = .ok (.getfield 47, 3) := by decide +kernel
theorem dX5_countInFurnace_6 : decode cX5_countInFurnace 6 = .ok (.astore_n 2, 1) := by decide +kernel
theorem dX5_countInFurnace_7 : decode cX5_countInFurnace 7 = .ok (.aload_n 2, 1) := by decide +kernel
theorem dX5_countInFurnace_8 : decode cX5_countInFurnace 8 = .ok (.arraylength, 1) := by decide +kernel
theorem dX5_countInFurnace_9 : decode cX5_countInFurnace 9 = .ok (.istore_n 3, 1) := by decide +kernel
theorem dX5_countInFurnace_10 : decode cX5_countInFurnace 10 = .ok (.iconst 0, 1) := by decide +kernel
theorem dX5_countInFurnace_11 : decode cX5_countInFurnace 11 = .ok (.istore 4, 2) := by decide +kernel
theorem dX5_countInFurnace_13 : decode cX5_countInFurnace 13 = .ok (.iload 4, 2) := by decide +kernel
theorem dX5_countInFurnace_15 : decode cX5_countInFurnace 15 = .ok (.iload_n 3, 1) := by decide +kernel
theorem dX5_countInFurnace_16 : decode cX5_countInFurnace 16 = .ok (.if_icmp .ge 32, 3) := by decide +kernel
theorem dX5_countInFurnace_19 : decode cX5_countInFurnace 19 = .ok (.aload_n 2, 1) := by decide +kernel
theorem dX5_countInFurnace_20 : decode cX5_countInFurnace 20 = .ok (.iload 4, 2) := by decide +kernel
theorem dX5_countInFurnace_22 : decode cX5_countInFurnace 22 = .ok (.aaload, 1) := by decide +kernel
theorem dX5_countInFurnace_23 : decode cX5_countInFurnace 23 = .ok (.astore 5, 2) := by decide +kernel
theorem dX5_countInFurnace_25 : decode cX5_countInFurnace 25 = .ok (.aload 5, 2) := by decide +kernel
theorem dX5_countInFurnace_27 : decode cX5_countInFurnace 27 = .ok (.ifnull 15, 3) := by decide +kernel
theorem dX5_countInFurnace_30 : decode cX5_countInFurnace 30 = .ok (.aload 5, 2) := by decide +kernel
theorem dX5_countInFurnace_32 : decode cX5_countInFurnace 32 = .ok (.getfield 159, 3) := by decide +kernel
theorem dX5_countInFurnace_35 : decode cX5_countInFurnace 35 = .ok (.iconst (-1), 1) := by decide +kernel
theorem dX5_countInFurnace_36 : decode cX5_countInFurnace 36 = .ok (.if_icmp .eq 6, 3) := by decide +kernel
theorem dX5_countInFurnace_39 : decode cX5_countInFurnace 39 = .ok (.iinc 1 1, 3) := by decide +kernel
theorem dX5_countInFurnace_42 : decode cX5_countInFurnace 42 = .ok (.iinc 4 1, 3) := by decide +kernel
theorem dX5_countInFurnace_45 : decode cX5_countInFurnace 45 = .ok (.goto (-32), 3) := by decide +kernel
theorem dX5_countInFurnace_48 : decode cX5_countInFurnace 48 = .ok (.iload_n 1, 1) := by decide +kernel
theorem dX5_countInFurnace_49 : decode cX5_countInFurnace 49 = .ok (.ireturn, 1) := by decide +kernel
theorem dX5_heatProperty_0 : decode cX5_heatProperty 0 = .ok (.aload_n 0, 1) := by decide +kernel
theorem dX5_heatProperty_1 : decode cX5_heatProperty 1 = .ok (.iload_n 1, 1) := by decide +kernel
theorem dX5_heatProperty_2 : decode cX5_heatProperty 2 = .ok (.invokevirtual 68, 3) := by decide +kernel
theorem dX5_heatProperty_5 : decode cX5_heatProperty 5 = .ok (.astore_n 3, 1) := by decide +kernel
theorem dX5_heatProperty_6 : decode cX5_heatProperty 6 = .ok (.iload_n 2, 1) := by decide +kernel
theorem dX5_heatProperty_7 : decode cX5_heatProperty 7 = .ok (.tableswitch 68 0 5 #[37, 42, 47, 52, 58, 63], 37) := by decide +kernel
theorem dX5_heatProperty_44 : decode cX5_heatProperty 44 = .ok (.aload_n 3, 1) := by decide +kernel
theorem dX5_heatProperty_45 : decode cX5_heatProperty 45 = .ok (.getfield 170, 3) := by decide +kernel
theorem dX5_heatProperty_48 : decode cX5_heatProperty 48 = .ok (.ireturn, 1) := by decide +kernel
theorem dX5_heatProperty_49 : decode cX5_heatProperty 49 = .ok (.aload_n 3, 1) := by decide +kernel
theorem dX5_heatProperty_50 : decode cX5_heatProperty 50 = .ok (.getfield 173, 3) := by decide +kernel
theorem dX5_heatProperty_53 : decode cX5_heatProperty 53 = .ok (.ireturn, 1) := by decide +kernel
theorem dX5_heatProperty_54 : decode cX5_heatProperty 54 = .ok (.aload_n 3, 1) := by decide +kernel
theorem dX5_heatProperty_55 : decode cX5_heatProperty 55 = .ok (.getfield 176, 3) := by decide +kernel
theorem dX5_heatProperty_58 : decode cX5_heatProperty 58 = .ok (.ireturn, 1) := by decide +kernel
theorem dX5_heatProperty_59 : decode cX5_heatProperty 59 = .ok (.aload_n 0, 1) := by decide +kernel
theorem dX5_heatProperty_60 : decode cX5_heatProperty 60 = .ok (.iload_n 1, 1) := by decide +kernel
theorem dX5_heatProperty_61 : decode cX5_heatProperty 61 = .ok (.invokevirtual 179, 3) := by decide +kernel
theorem dX5_heatProperty_64 : decode cX5_heatProperty 64 = .ok (.ireturn, 1) := by decide +kernel
theorem dX5_heatProperty_65 : decode cX5_heatProperty 65 = .ok (.aload_n 3, 1) := by decide +kernel
theorem dX5_heatProperty_66 : decode cX5_heatProperty 66 = .ok (.getfield 169, 3) := by decide +kernel
theorem dX5_heatProperty_69 : decode cX5_heatProperty 69 = .ok (.ireturn, 1) := by decide +kernel
theorem dX5_heatProperty_70 : decode cX5_heatProperty 70 = .ok (.aload_n 3, 1) := by decide +kernel
theorem dX5_heatProperty_71 : decode cX5_heatProperty 71 = .ok (.getfield 162, 3) := by decide +kernel
theorem dX5_heatProperty_74 : decode cX5_heatProperty 74 = .ok (.ireturn, 1) := by decide +kernel
theorem dX5_heatProperty_75 : decode cX5_heatProperty 75 = .ok (.aload_n 0, 1) := by decide +kernel
theorem dX5_heatProperty_76 : decode cX5_heatProperty 76 = .ok (.iload_n 1, 1) := by decide +kernel
theorem dX5_heatProperty_77 : decode cX5_heatProperty 77 = .ok (.invokevirtual 182, 3) := by decide +kernel
theorem dX5_heatProperty_80 : decode cX5_heatProperty 80 = .ok (.ireturn, 1) := by decide +kernel
theorem dX5_countBilletsOf_0 : decode cX5_countBilletsOf 0 = .ok (.iconst 0, 1) := by decide +kernel
theorem dX5_countBilletsOf_1 : decode cX5_countBilletsOf 1 = .ok (.istore_n 2, 1) := by decide +kernel
theorem dX5_countBilletsOf_2 : decode cX5_countBilletsOf 2 = .ok (.iconst 0, 1) := by decide +kernel
theorem dX5_countBilletsOf_3 : decode cX5_countBilletsOf 3 = .ok (.istore_n 3, 1) := by decide +kernel
theorem dX5_countBilletsOf_4 : decode cX5_countBilletsOf 4 = .ok (.iload_n 3, 1) := by decide +kernel
theorem dX5_countBilletsOf_5 : decode cX5_countBilletsOf 5 = .ok (.aload_n 0, 1) := by decide +kernel
theorem dX5_countBilletsOf_6 : decode cX5_countBilletsOf 6 = .ok (.getfield 83, 3) := by decide +kernel
theorem dX5_countBilletsOf_9 : decode cX5_countBilletsOf 9 = .ok (.if_icmp .ge 33, 3) := by decide +kernel
theorem dX5_countBilletsOf_12 : decode cX5_countBilletsOf 12 = .ok (.aload_n 0, 1) := by decide +kernel
theorem dX5_countBilletsOf_13 : decode cX5_countBilletsOf 13 = .ok (.iload_n 3, 1) := by decide +kernel
theorem dX5_countBilletsOf_14 : decode cX5_countBilletsOf 14 = .ok (.invokevirtual 86, 3) := by decide +kernel
theorem dX5_countBilletsOf_17 : decode cX5_countBilletsOf 17 = .ok (.astore 4, 2) := by decide +kernel
theorem dX5_countBilletsOf_19 : decode cX5_countBilletsOf 19 = .ok (.aload 4, 2) := by decide +kernel
theorem dX5_countBilletsOf_21 : decode cX5_countBilletsOf 21 = .ok (.getfield 128, 3) := by decide +kernel
theorem dX5_countBilletsOf_24 : decode cX5_countBilletsOf 24 = .ok (.iload_n 1, 1) := by decide +kernel
theorem dX5_countBilletsOf_25 : decode cX5_countBilletsOf 25 = .ok (.if_icmp .ne 11, 3) := by decide +kernel
theorem dX5_countBilletsOf_28 : decode cX5_countBilletsOf 28 = .ok (.iload_n 2, 1) := by decide +kernel
theorem dX5_countBilletsOf_29 : decode cX5_countBilletsOf 29 = .ok (.aload 4, 2) := by decide +kernel
theorem dX5_countBilletsOf_31 : decode cX5_countBilletsOf 31 = .ok (.getfield 144, 3) := by decide +kernel
theorem dX5_countBilletsOf_34 : decode cX5_countBilletsOf 34 = .ok (.iadd, 1) := by decide +kernel
theorem dX5_countBilletsOf_35 : decode cX5_countBilletsOf 35 = .ok (.istore_n 2, 1) := by decide +kernel
theorem dX5_countBilletsOf_36 : decode cX5_countBilletsOf 36 = .ok (.iinc 3 1, 3) := by decide +kernel
theorem dX5_countBilletsOf_39 : decode cX5_countBilletsOf 39 = .ok (.goto (-35), 3) := by decide +kernel
theorem dX5_countBilletsOf_42 : decode cX5_countBilletsOf 42 = .ok (.iload_n 2, 1) := by decide +kernel
theorem dX5_countBilletsOf_43 : decode cX5_countBilletsOf 43 = .ok (.ireturn, 1) := by decide +kernel
theorem dX5_countLackOf_0 : decode cX5_countLackOf 0 = .ok (.iconst 0, 1) := by decide +kernel
theorem dX5_countLackOf_1 : decode cX5_countLackOf 1 = .ok (.istore_n 2, 1) := by decide +kernel
theorem dX5_countLackOf_2 : decode cX5_countLackOf 2 = .ok (.iconst 0, 1) := by decide +kernel
theorem dX5_countLackOf_3 : decode cX5_countLackOf 3 = .ok (.istore_n 3, 1) := by decide +kernel
theorem dX5_countLackOf_4 : decode cX5_countLackOf 4 = .ok (.iload_n 3, 1) := by decide +kernel
theorem dX5_countLackOf_5 : decode cX5_countLackOf 5 = .ok (.aload_n 0, 1) := by decide +kernel
theorem dX5_countLackOf_6 : decode cX5_countLackOf 6 = .ok (.getfield 83, 3) := by decide +kernel
theorem dX5_countLackOf_9 : decode cX5_countLackOf 9 = .ok (.if_icmp .ge 33, 3) := by decide +kernel
theorem dX5_countLackOf_12 : decode cX5_countLackOf 12 = .ok (.aload_n 0, 1) := by decide +kernel
theorem dX5_countLackOf_13 : decode cX5_countLackOf 13 = .ok (.iload_n 3, 1) := by decide +kernel
theorem dX5_countLackOf_14 : decode cX5_countLackOf 14 = .ok (.invokevirtual 86, 3) := by decide +kernel
theorem dX5_countLackOf_17 : decode cX5_countLackOf 17 = .ok (.astore 4, 2) := by decide +kernel
theorem dX5_countLackOf_19 : decode cX5_countLackOf 19 = .ok (.aload 4, 2) := by decide +kernel
theorem dX5_countLackOf_21 : decode cX5_countLackOf 21 = .ok (.getfield 128, 3) := by decide +kernel
theorem dX5_countLackOf_24 : decode cX5_countLackOf 24 = .ok (.iload_n 1, 1) := by decide +kernel
theorem dX5_countLackOf_25 : decode cX5_countLackOf 25 = .ok (.if_icmp .ne 11, 3) := by decide +kernel
theorem dX5_countLackOf_28 : decode cX5_countLackOf 28 = .ok (.iload_n 2, 1) := by decide +kernel
theorem dX5_countLackOf_29 : decode cX5_countLackOf 29 = .ok (.aload 4, 2) := by decide +kernel
theorem dX5_countLackOf_31 : decode cX5_countLackOf 31 = .ok (.invokevirtual 185, 3) := by decide +kernel
theorem dX5_countLackOf_34 : decode cX5_countLackOf 34 = .ok (.iadd, 1) := by decide +kernel
theorem dX5_countLackOf_35 : decode cX5_countLackOf 35 = .ok (.istore_n 2, 1) := by decide +kernel
theorem dX5_countLackOf_36 : decode cX5_countLackOf 36 = .ok (.iinc 3 1, 3) := by decide +kernel
theorem dX5_countLackOf_39 : decode cX5_countLackOf 39 = .ok (.goto (-35), 3) := by decide +kernel
theorem dX5_countLackOf_42 : decode cX5_countLackOf 42 = .ok (.iload_n 2, 1) := by decide +kernel
theorem dX5_countLackOf_43 : decode cX5_countLackOf 43 = .ok (.ireturn, 1) := by decide +kernel
theorem dX5_jobProperty_0 : decode cX5_jobProperty 0 = .ok (.aload_n 0, 1) := by decide +kernel
theorem dX5_jobProperty_1 : decode cX5_jobProperty 1 = .ok (.iload_n 1, 1) := by decide +kernel
theorem dX5_jobProperty_2 : decode cX5_jobProperty 2 = .ok (.invokevirtual 86, 3) := by decide +kernel
theorem dX5_jobProperty_5 : decode cX5_jobProperty 5 = .ok (.astore_n 3, 1) := by decide +kernel
theorem dX5_jobProperty_6 : decode cX5_jobProperty 6 = .ok (.iload_n 2, 1) := by decide +kernel
theorem dX5_jobProperty_7 : decode cX5_jobProperty 7 = .ok (.tableswitch 84 0 6 #[41, 46, 51, 56, 61, 66, 71], 41) := by decide +kernel
theorem dX5_jobProperty_48 : decode cX5_jobProperty 48 = .ok (.aload_n 3, 1) := by decide +kernel
theorem dX5_jobProperty_49 : decode cX5_jobProperty 49 = .ok (.getfield 122, 3) := by decide +kernel
theorem dX5_jobProperty_52 : decode cX5_jobProperty 52 = .ok (.ireturn, 1) := by decide +kernel
theorem dX5_jobProperty_53 : decode cX5_jobProperty 53 = .ok (.aload_n 3, 1) := by decide +kernel
theorem dX5_jobProperty_54 : decode cX5_jobProperty 54 = .ok (.getfield 125, 3) := by decide +kernel
theorem dX5_jobProperty_57 : decode cX5_jobProperty 57 = .ok (.ireturn, 1) := by decide +kernel
theorem dX5_jobProperty_58 : decode cX5_jobProperty 58 = .ok (.aload_n 3, 1) := by decide +kernel
theorem dX5_jobProperty_59 : decode cX5_jobProperty 59 = .ok (.getfield 128, 3) := by decide +kernel
theorem dX5_jobProperty_62 : decode cX5_jobProperty 62 = .ok (.ireturn, 1) := by decide +kernel
theorem dX5_jobProperty_63 : decode cX5_jobProperty 63 = .ok (.aload_n 3, 1) := by decide +kernel
theorem dX5_jobProperty_64 : decode cX5_jobProperty 64 = .ok (.getfield 131, 3) := by decide +kernel
theorem dX5_jobProperty_67 : decode cX5_jobProperty 67 = .ok (.ireturn, 1) := by decide +kernel
theorem dX5_jobProperty_68 : decode cX5_jobProperty 68 = .ok (.aload_n 3, 1) := by decide +kernel
theorem dX5_jobProperty_69 : decode cX5_jobProperty 69 = .ok (.getfield 134, 3) := by decide +kernel
theorem dX5_jobProperty_72 : decode cX5_jobProperty 72 = .ok (.ireturn, 1) := by decide +kernel
theorem dX5_jobProperty_73 : decode cX5_jobProperty 73 = .ok (.aload_n 3, 1) := by decide +kernel
theorem dX5_jobProperty_74 : decode cX5_jobProperty 74 = .ok (.getfield 137, 3) := by decide +kernel
theorem dX5_jobProperty_77 : decode cX5_jobProperty 77 = .ok (.ireturn, 1) := by decide +kernel
theorem dX5_jobProperty_78 : decode cX5_jobProperty 78 = .ok (.aload_n 3, 1) := by decide +kernel
theorem dX5_jobProperty_79 : decode cX5_jobProperty 79 = .ok (.getfield 140, 3) := by decide +kernel
theorem dX5_jobProperty_82 : decode cX5_jobProperty 82 = .ok (.ifCond .eq 7, 3) := by decide +kernel
theorem dX5_jobProperty_85 : decode cX5_jobProperty 85 = .ok (.iconst 1, 1) := by decide +kernel
theorem dX5_jobProperty_86 : decode cX5_jobProperty 86 = .ok (.goto 4, 3) := by decide +kernel
theorem dX5_jobProperty_89 : decode cX5_jobProperty 89 = .ok (.iconst 0, 1) := by decide +kernel
theorem dX5_jobProperty_90 : decode cX5_jobProperty 90 = .ok (.ireturn, 1) := by decide +kernel
theorem dX5_jobProperty_91 : decode cX5_jobProperty 91 = .ok (.aload_n 0, 1) := by decide +kernel
theorem dX5_jobProperty_92 : decode cX5_jobProperty 92 = .ok (.aload_n 3, 1) := by decide +kernel
theorem dX5_jobProperty_93 : decode cX5_jobProperty 93 = .ok (.invokevirtual 189, 3) := by decide +kernel
theorem dX5_jobProperty_96 : decode cX5_jobProperty 96 = .ok (.ireturn, 1) := by decide +kernel
theorem dX5_reasonToWait_0 : decode cX5_reasonToWait 0 = .ok (.aload_n 0, 1) := by decide +kernel
theorem dX5_reasonToWait_1 : decode cX5_reasonToWait 1 = .ok (.aload_n 1, 1) := by decide +kernel
theorem dX5_reasonToWait_2 : decode cX5_reasonToWait 2 = .ok (.getfield 125, 3) := by decide +kernel
theorem dX5_reasonToWait_5 : decode cX5_reasonToWait 5 = .ok (.invokevirtual 76, 3) := by decide +kernel
theorem dX5_reasonToWait_8 : decode cX5_reasonToWait 8 = .ok (.astore_n 2, 1) := by decide +kernel
theorem dX5_reasonToWait_9 : decode cX5_reasonToWait 9 = .ok (.aload_n 0, 1) := by decide +kernel
theorem dX5_reasonToWait_10 : decode cX5_reasonToWait 10 = .ok (.getfield 52, 3) := by decide +kernel
theorem dX5_reasonToWait_13 : decode cX5_reasonToWait 13 = .ok (.getfield 159, 3) := by decide +kernel
theorem dX5_reasonToWait_16 : decode cX5_reasonToWait 16 = .ok (.aload_n 1, 1) := by decide +kernel
theorem dX5_reasonToWait_17 : decode cX5_reasonToWait 17 = .ok (.getfield 122, 3) := by decide +kernel
theorem dX5_reasonToWait_20 : decode cX5_reasonToWait 20 = .ok (.if_icmp .ne 5, 3) := by decide +kernel
theorem dX5_reasonToWait_23 : decode cX5_reasonToWait 23 = .ok (.iconst 0, 1) := by decide +kernel
theorem dX5_reasonToWait_24 : decode cX5_reasonToWait 24 = .ok (.ireturn, 1) := by decide +kernel
theorem dX5_reasonToWait_25 : decode cX5_reasonToWait 25 = .ok (.aload_n 2, 1) := by decide +kernel
theorem dX5_reasonToWait_26 : decode cX5_reasonToWait 26 = .ok (.invokevirtual 193, 3) := by decide +kernel
theorem dX5_reasonToWait_29 : decode cX5_reasonToWait 29 = .ok (.ifCond .eq 5, 3) := by decide +kernel
theorem dX5_reasonToWait_32 : decode cX5_reasonToWait 32 = .ok (.iconst 1, 1) := by decide +kernel
theorem dX5_reasonToWait_33 : decode cX5_reasonToWait 33 = .ok (.ireturn, 1) := by decide +kernel
theorem dX5_reasonToWait_34 : decode cX5_reasonToWait 34 = .ok (.aload_n 2, 1) := by decide +kernel
theorem dX5_reasonToWait_35 : decode cX5_reasonToWait 35 = .ok (.invokevirtual 197, 3) := by decide +kernel
theorem dX5_reasonToWait_38 : decode cX5_reasonToWait 38 = .ok (.ifCond .eq 5, 3) := by decide +kernel
theorem dX5_reasonToWait_41 : decode cX5_reasonToWait 41 = .ok (.iconst 2, 1) := by decide +kernel
theorem dX5_reasonToWait_42 : decode cX5_reasonToWait 42 = .ok (.ireturn, 1) := by decide +kernel
theorem dX5_reasonToWait_43 : decode cX5_reasonToWait 43 = .ok (.aload_n 1, 1) := by decide +kernel
theorem dX5_reasonToWait_44 : decode cX5_reasonToWait 44 = .ok (.getfield 144, 3) := by decide +kernel
theorem dX5_reasonToWait_47 : decode cX5_reasonToWait 47 = .ok (.ifCond .ne 19, 3) := by decide +kernel
theorem dX5_reasonToWait_50 : decode cX5_reasonToWait 50 = .ok (.aload_n 0, 1) := by decide +kernel
theorem dX5_reasonToWait_51 : decode cX5_reasonToWait 51 = .ok (.aload_n 1, 1) := by decide +kernel
theorem dX5_reasonToWait_52 : decode cX5_reasonToWait 52 = .ok (.getfield 128, 3) := by decide +kernel
theorem dX5_reasonToWait_55 : decode cX5_reasonToWait 55 = .ok (.invokevirtual 68, 3) := by decide +kernel
theorem dX5_reasonToWait_58 : decode cX5_reasonToWait 58 = .ok (.getfield 170, 3) := by decide +kernel
theorem dX5_reasonToWait_61 : decode cX5_reasonToWait 61 = .ok (.ifCond .ne 5, 3) := by decide +kernel
theorem dX5_reasonToWait_64 : decode cX5_reasonToWait 64 = .ok (.iconst 3, 1) := by decide +kernel
theorem dX5_reasonToWait_65 : decode cX5_reasonToWait 65 = .ok (.ireturn, 1) := by decide +kernel
theorem dX5_reasonToWait_66 : decode cX5_reasonToWait 66 = .ok (.aload_n 0, 1) := by decide +kernel
theorem dX5_reasonToWait_67 : decode cX5_reasonToWait 67 = .ok (.aload_n 1, 1) := by decide +kernel
theorem dX5_reasonToWait_68 : decode cX5_reasonToWait 68 = .ok (.invokevirtual 200, 3) := by decide +kernel
theorem dX5_reasonToWait_71 : decode cX5_reasonToWait 71 = .ok (.ifnonnull 5, 3) := by decide +kernel
theorem dX5_reasonToWait_74 : decode cX5_reasonToWait 74 = .ok (.iconst 4, 1) := by decide +kernel
theorem dX5_reasonToWait_75 : decode cX5_reasonToWait 75 = .ok (.ireturn, 1) := by decide +kernel
theorem dX5_reasonToWait_76 : decode cX5_reasonToWait 76 = .ok (.aload_n 0, 1) := by decide +kernel
theorem dX5_reasonToWait_77 : decode cX5_reasonToWait 77 = .ok (.getfield 52, 3) := by decide +kernel
theorem dX5_reasonToWait_80 : decode cX5_reasonToWait 80 = .ok (.getfield 159, 3) := by decide +kernel
theorem dX5_reasonToWait_83 : decode cX5_reasonToWait 83 = .ok (.iconst (-1), 1) := by decide +kernel
theorem dX5_reasonToWait_84 : decode cX5_reasonToWait 84 = .ok (.if_icmp .eq 7, 3) := by decide +kernel
theorem dX5_reasonToWait_87 : decode cX5_reasonToWait 87 = .ok (.iconst 5, 1) := by decide +kernel
theorem dX5_reasonToWait_88 : decode cX5_reasonToWait 88 = .ok (.goto 5, 3) := by decide +kernel
theorem dX5_reasonToWait_91 : decode cX5_reasonToWait 91 = .ok (.bipush 6, 2) := by decide +kernel
theorem dX5_reasonToWait_93 : decode cX5_reasonToWait 93 = .ok (.ireturn, 1) := by decide +kernel
theorem dX5_dieBeingGround_0 : decode cX5_dieBeingGround 0 = .ok (.iconst 0, 1) := by decide +kernel
theorem dX5_dieBeingGround_1 : decode cX5_dieBeingGround 1 = .ok (.istore_n 1, 1) := by decide +kernel
theorem dX5_dieBeingGround_2 : decode cX5_dieBeingGround 2 = .ok (.iload_n 1, 1) := by decide +kernel
theorem dX5_dieBeingGround_3 : decode cX5_dieBeingGround 3 = .ok (.iconst 5, 1) := by decide +kernel
theorem dX5_dieBeingGround_4 : decode cX5_dieBeingGround 4 = .ok (.if_icmp .ge 22, 3) := by decide +kernel
theorem dX5_dieBeingGround_7 : decode cX5_dieBeingGround 7 = .ok (.aload_n 0, 1) := by decide +kernel
theorem dX5_dieBeingGround_8 : decode cX5_dieBeingGround 8 = .ok (.iload_n 1, 1) := by decide +kernel
theorem dX5_dieBeingGround_9 : decode cX5_dieBeingGround 9 = .ok (.invokevirtual 76, 3) := by decide +kernel
theorem dX5_dieBeingGround_12 : decode cX5_dieBeingGround 12 = .ok (.invokevirtual 193, 3) := by decide +kernel
theorem dX5_dieBeingGround_15 : decode cX5_dieBeingGround 15 = .ok (.ifCond .eq 5, 3) := by decide +kernel
theorem dX5_dieBeingGround_18 : decode cX5_dieBeingGround 18 = .ok (.iload_n 1, 1) := by decide +kernel
theorem dX5_dieBeingGround_19 : decode cX5_dieBeingGround 19 = .ok (.ireturn, 1) := by decide +kernel
theorem dX5_dieBeingGround_20 : decode cX5_dieBeingGround 20 = .ok (.iinc 1 1, 3) := by decide +kernel
theorem dX5_dieBeingGround_23 : decode cX5_dieBeingGround 23 = .ok (.goto (-21), 3) := by decide +kernel
theorem dX5_dieBeingGround_26 : decode cX5_dieBeingGround 26 = .ok (.iconst (-1), 1) := by decide +kernel
theorem dX5_dieBeingGround_27 : decode cX5_dieBeingGround 27 = .ok (.ireturn, 1) := by decide +kernel
theorem dX5_freePlace_0 : decode cX5_freePlace 0 = .ok (.aload_n 0, 1) := by decide +kernel
theorem dX5_freePlace_1 : decode cX5_freePlace 1 = .ok (.getfield 47, 3) := by decide +kernel
theorem dX5_freePlace_4 : decode cX5_freePlace 4 = .ok (.astore_n 1, 1) := by decide +kernel
theorem dX5_freePlace_5 : decode cX5_freePlace 5 = .ok (.aload_n 1, 1) := by decide +kernel
theorem dX5_freePlace_6 : decode cX5_freePlace 6 = .ok (.arraylength, 1) := by decide +kernel
theorem dX5_freePlace_7 : decode cX5_freePlace 7 = .ok (.istore_n 2, 1) := by decide +kernel
theorem dX5_freePlace_8 : decode cX5_freePlace 8 = .ok (.iconst 0, 1) := by decide +kernel
theorem dX5_freePlace_9 : decode cX5_freePlace 9 = .ok (.istore_n 3, 1) := by decide +kernel
theorem dX5_freePlace_10 : decode cX5_freePlace 10 = .ok (.iload_n 3, 1) := by decide +kernel
theorem dX5_freePlace_11 : decode cX5_freePlace 11 = .ok (.iload_n 2, 1) := by decide +kernel
theorem dX5_freePlace_12 : decode cX5_freePlace 12 = .ok (.if_icmp .ge 31, 3) := by decide +kernel
theorem dX5_freePlace_15 : decode cX5_freePlace 15 = .ok (.aload_n 1, 1) := by decide +kernel
theorem dX5_freePlace_16 : decode cX5_freePlace 16 = .ok (.iload_n 3, 1) := by decide +kernel
theorem dX5_freePlace_17 : decode cX5_freePlace 17 = .ok (.aaload, 1) := by decide +kernel
theorem dX5_freePlace_18 : decode cX5_freePlace 18 = .ok (.astore 4, 2) := by decide +kernel
theorem dX5_freePlace_20 : decode cX5_freePlace 20 = .ok (.aload 4, 2) := by decide +kernel
theorem dX5_freePlace_22 : decode cX5_freePlace 22 = .ok (.ifnull 15, 3) := by decide +kernel
theorem dX5_freePlace_25 : decode cX5_freePlace 25 = .ok (.aload 4, 2) := by decide +kernel
theorem dX5_freePlace_27 : decode cX5_freePlace 27 = .ok (.getfield 159, 3) := by decide +kernel
theorem dX5_freePlace_30 : decode cX5_freePlace 30 = .ok (.iconst (-1), 1) := by decide +kernel
theorem dX5_freePlace_31 : decode cX5_freePlace 31 = .ok (.if_icmp .ne 6, 3) := by decide +kernel
theorem dX5_freePlace_34 : decode cX5_freePlace 34 = .ok (.aload 4, 2) := by decide +kernel
theorem dX5_freePlace_36 : decode cX5_freePlace 36 = .ok (.areturn, 1) := by decide +kernel
theorem dX5_freePlace_37 : decode cX5_freePlace 37 = .ok (.iinc 3 1, 3) := by decide +kernel
theorem dX5_freePlace_40 : decode cX5_freePlace 40 = .ok (.goto (-30), 3) := by decide +kernel
theorem dX5_freePlace_43 : decode cX5_freePlace 43 = .ok (.aconst_null, 1) := by decide +kernel
theorem dX5_freePlace_44 : decode cX5_freePlace 44 = .ok (.areturn, 1) := by decide +kernel
theorem dX5_hottestReady_0 : decode cX5_hottestReady 0 = .ok (.aload_n 0, 1) := by decide +kernel
theorem dX5_hottestReady_1 : decode cX5_hottestReady 1 = .ok (.aload_n 1, 1) := by decide +kernel
theorem dX5_hottestReady_2 : decode cX5_hottestReady 2 = .ok (.getfield 128, 3) := by decide +kernel
theorem dX5_hottestReady_5 : decode cX5_hottestReady 5 = .ok (.invokevirtual 68, 3) := by decide +kernel
theorem dX5_hottestReady_8 : decode cX5_hottestReady 8 = .ok (.getfield 176, 3) := by decide +kernel
theorem dX5_hottestReady_11 : decode cX5_hottestReady 11 = .ok (.istore_n 2, 1) := by decide +kernel
theorem dX5_hottestReady_12 : decode cX5_hottestReady 12 = .ok (.aconst_null, 1) := by decide +kernel
theorem dX5_hottestReady_13 : decode cX5_hottestReady 13 = .ok (.astore_n 3, 1) := by decide +kernel
theorem dX5_hottestReady_14 : decode cX5_hottestReady 14 = .ok (.aload_n 0, 1) := by decide +kernel
theorem dX5_hottestReady_15 : decode cX5_hottestReady 15 = .ok (.getfield 47, 3) := by decide +kernel
theorem dX5_hottestReady_18 : decode cX5_hottestReady 18 = .ok (.astore 4, 2) := by decide +kernel
theorem dX5_hottestReady_20 : decode cX5_hottestReady 20 = .ok (.aload 4, 2) := by decide +kernel
theorem dX5_hottestReady_22 : decode cX5_hottestReady 22 = .ok (.arraylength, 1) := by decide +kernel
theorem dX5_hottestReady_23 : decode cX5_hottestReady 23 = .ok (.istore 5, 2) := by decide +kernel
theorem dX5_hottestReady_25 : decode cX5_hottestReady 25 = .ok (.iconst 0, 1) := by decide +kernel
theorem dX5_hottestReady_26 : decode cX5_hottestReady 26 = .ok (.istore 6, 2) := by decide +kernel
theorem dX5_hottestReady_28 : decode cX5_hottestReady 28 = .ok (.iload 6, 2) := by decide +kernel
theorem dX5_hottestReady_30 : decode cX5_hottestReady 30 = .ok (.iload 5, 2) := by decide +kernel
theorem dX5_hottestReady_32 : decode cX5_hottestReady 32 = .ok (.if_icmp .ge 53, 3) := by decide +kernel
theorem dX5_hottestReady_35 : decode cX5_hottestReady 35 = .ok (.aload 4, 2) := by decide +kernel
theorem dX5_hottestReady_37 : decode cX5_hottestReady 37 = .ok (.iload 6, 2) := by decide +kernel
theorem dX5_hottestReady_39 : decode cX5_hottestReady 39 = .ok (.aaload, 1) := by decide +kernel
theorem dX5_hottestReady_40 : decode cX5_hottestReady 40 = .ok (.astore 7, 2) := by decide +kernel
theorem dX5_hottestReady_42 : decode cX5_hottestReady 42 = .ok (.aload 7, 2) := by decide +kernel
theorem dX5_hottestReady_44 : decode cX5_hottestReady 44 = .ok (.ifnull 35, 3) := by decide +kernel
theorem dX5_hottestReady_47 : decode cX5_hottestReady 47 = .ok (.aload 7, 2) := by decide +kernel
theorem dX5_hottestReady_49 : decode cX5_hottestReady 49 = .ok (.getfield 159, 3) := by decide +kernel
theorem dX5_hottestReady_52 : decode cX5_hottestReady 52 = .ok (.aload_n 1, 1) := by decide +kernel
theorem dX5_hottestReady_53 : decode cX5_hottestReady 53 = .ok (.getfield 122, 3) := by decide +kernel
theorem dX5_hottestReady_56 : decode cX5_hottestReady 56 = .ok (.if_icmp .ne 23, 3) := by decide +kernel
theorem dX5_hottestReady_59 : decode cX5_hottestReady 59 = .ok (.aload 7, 2) := by decide +kernel
theorem dX5_hottestReady_61 : decode cX5_hottestReady 61 = .ok (.getfield 204, 3) := by decide +kernel
theorem dX5_hottestReady_64 : decode cX5_hottestReady 64 = .ok (.iload_n 2, 1) := by decide +kernel
theorem dX5_hottestReady_65 : decode cX5_hottestReady 65 = .ok (.if_icmp .lt 14, 3) := by decide +kernel
theorem dX5_hottestReady_68 : decode cX5_hottestReady 68 = .ok (.aload 7, 2) := by decide +kernel
theorem dX5_hottestReady_70 : decode cX5_hottestReady 70 = .ok (.astore_n 3, 1) := by decide +kernel
theorem dX5_hottestReady_71 : decode cX5_hottestReady 71 = .ok (.aload 7, 2) := by decide +kernel
theorem dX5_hottestReady_73 : decode cX5_hottestReady 73 = .ok (.getfield 204, 3) := by decide +kernel
theorem dX5_hottestReady_76 : decode cX5_hottestReady 76 = .ok (.iconst 1, 1) := by decide +kernel
theorem dX5_hottestReady_77 : decode cX5_hottestReady 77 = .ok (.iadd, 1) := by decide +kernel
theorem dX5_hottestReady_78 : decode cX5_hottestReady 78 = .ok (.istore_n 2, 1) := by decide +kernel
theorem dX5_hottestReady_79 : decode cX5_hottestReady 79 = .ok (.iinc 6 1, 3) := by decide +kernel
theorem dX5_hottestReady_82 : decode cX5_hottestReady 82 = .ok (.goto (-54), 3) := by decide +kernel
theorem dX5_hottestReady_85 : decode cX5_hottestReady 85 = .ok (.aload_n 3, 1) := by decide +kernel
theorem dX5_hottestReady_86 : decode cX5_hottestReady 86 = .ok (.areturn, 1) := by decide +kernel
theorem dX5_passMinutes_0 : decode cX5_passMinutes 0 = .ok (.iconst 0, 1) := by decide +kernel
theorem dX5_passMinutes_1 : decode cX5_passMinutes 1 = .ok (.istore_n 2, 1) := by decide +kernel
theorem dX5_passMinutes_2 : decode cX5_passMinutes 2 = .ok (.iload_n 2, 1) := by decide +kernel
theorem dX5_passMinutes_3 : decode cX5_passMinutes 3 = .ok (.iload_n 1, 1) := by decide +kernel
theorem dX5_passMinutes_4 : decode cX5_passMinutes 4 = .ok (.if_icmp .ge 13, 3) := by decide +kernel
theorem dX5_passMinutes_7 : decode cX5_passMinutes 7 = .ok (.aload_n 0, 1) := by decide +kernel
theorem dX5_passMinutes_8 : decode cX5_passMinutes 8 = .ok (.invokevirtual 207, 3) := by decide +kernel
theorem dX5_passMinutes_11 : decode cX5_passMinutes 11 = .ok (.iinc 2 1, 3) := by decide +kernel
theorem dX5_passMinutes_14 : decode cX5_passMinutes 14 = .ok (.goto (-12), 3) := by decide +kernel
theorem dX5_passMinutes_17 : decode cX5_passMinutes 17 = .ok (.return_, 1) := by decide +kernel
theorem dX5_passMinute_0 : decode cX5_passMinute 0 = .ok (.aload_n 0, 1) := by decide +kernel
theorem dX5_passMinute_1 : decode cX5_passMinute 1 = .ok (.dup, 1) := by decide +kernel
theorem dX5_passMinute_2 : decode cX5_passMinute 2 = .ok (.getfield 107, 3) := by decide +kernel
theorem dX5_passMinute_5 : decode cX5_passMinute 5 = .ok (.iconst 1, 1) := by decide +kernel
theorem dX5_passMinute_6 : decode cX5_passMinute 6 = .ok (.iadd, 1) := by decide +kernel
theorem dX5_passMinute_7 : decode cX5_passMinute 7 = .ok (.putfield 107, 3) := by decide +kernel
theorem dX5_passMinute_10 : decode cX5_passMinute 10 = .ok (.aload_n 0, 1) := by decide +kernel
theorem dX5_passMinute_11 : decode cX5_passMinute 11 = .ok (.invokevirtual 210, 3) := by decide +kernel
theorem dX5_passMinute_14 : decode cX5_passMinute 14 = .ok (.aload_n 0, 1) := by decide +kernel
theorem dX5_passMinute_15 : decode cX5_passMinute 15 = .ok (.invokevirtual 213, 3) := by decide +kernel
theorem dX5_passMinute_18 : decode cX5_passMinute 18 = .ok (.aload_n 0, 1) := by decide +kernel
theorem dX5_passMinute_19 : decode cX5_passMinute 19 = .ok (.getfield 52, 3) := by decide +kernel
theorem dX5_passMinute_22 : decode cX5_passMinute 22 = .ok (.getfield 159, 3) := by decide +kernel
theorem dX5_passMinute_25 : decode cX5_passMinute 25 = .ok (.iconst (-1), 1) := by decide +kernel
theorem dX5_passMinute_26 : decode cX5_passMinute 26 = .ok (.if_icmp .ne 10, 3) := by decide +kernel
theorem dX5_passMinute_29 : decode cX5_passMinute 29 = .ok (.aload_n 0, 1) := by decide +kernel
theorem dX5_passMinute_30 : decode cX5_passMinute 30 = .ok (.invokevirtual 216, 3) := by decide +kernel
theorem dX5_passMinute_33 : decode cX5_passMinute 33 = .ok (.goto 18, 3) := by decide +kernel
theorem dX5_passMinute_36 : decode cX5_passMinute 36 = .ok (.aload_n 0, 1) := by decide +kernel
theorem dX5_passMinute_37 : decode cX5_passMinute 37 = .ok (.aload_n 0, 1) := by decide +kernel
theorem dX5_passMinute_38 : decode cX5_passMinute 38 = .ok (.aload_n 0, 1) := by decide +kernel
theorem dX5_passMinute_39 : decode cX5_passMinute 39 = .ok (.getfield 52, 3) := by decide +kernel
theorem dX5_passMinute_42 : decode cX5_passMinute 42 = .ok (.getfield 159, 3) := by decide +kernel
theorem dX5_passMinute_45 : decode cX5_passMinute 45 = .ok (.invokevirtual 219, 3) := by decide +kernel
theorem dX5_passMinute_48 : decode cX5_passMinute 48 = .ok (.invokevirtual 222, 3) := by decide +kernel
theorem dX5_passMinute_51 : decode cX5_passMinute 51 = .ok (.aload_n 0, 1) := by decide +kernel
theorem dX5_passMinute_52 : decode cX5_passMinute 52 = .ok (.invokevirtual 225, 3) := by decide +kernel
theorem dX5_passMinute_55 : decode cX5_passMinute 55 = .ok (.return_, 1) := by decide +kernel
theorem dX5_warmFurnace_0 : decode cX5_warmFurnace 0 = .ok (.aload_n 0, 1) := by decide +kernel
theorem dX5_warmFurnace_1 : decode cX5_warmFurnace 1 = .ok (.getfield 47, 3) := by decide +kernel
theorem dX5_warmFurnace_4 : decode cX5_warmFurnace 4 = .ok (.astore_n 1, 1) := by decide +kernel
theorem dX5_warmFurnace_5 : decode cX5_warmFurnace 5 = .ok (.aload_n 1, 1) := by decide +kernel
theorem dX5_warmFurnace_6 : decode cX5_warmFurnace 6 = .ok (.arraylength, 1) := by decide +kernel
theorem dX5_warmFurnace_7 : decode cX5_warmFurnace 7 = .ok (.istore_n 2, 1) := by decide +kernel
theorem dX5_warmFurnace_8 : decode cX5_warmFurnace 8 = .ok (.iconst 0, 1) := by decide +kernel
theorem dX5_warmFurnace_9 : decode cX5_warmFurnace 9 = .ok (.istore_n 3, 1) := by decide +kernel
theorem dX5_warmFurnace_10 : decode cX5_warmFurnace 10 = .ok (.iload_n 3, 1) := by decide +kernel
theorem dX5_warmFurnace_11 : decode cX5_warmFurnace 11 = .ok (.iload_n 2, 1) := by decide +kernel
theorem dX5_warmFurnace_12 : decode cX5_warmFurnace 12 = .ok (.if_icmp .ge 49, 3) := by decide +kernel
theorem dX5_warmFurnace_15 : decode cX5_warmFurnace 15 = .ok (.aload_n 1, 1) := by decide +kernel
theorem dX5_warmFurnace_16 : decode cX5_warmFurnace 16 = .ok (.iload_n 3, 1) := by decide +kernel
theorem dX5_warmFurnace_17 : decode cX5_warmFurnace 17 = .ok (.aaload, 1) := by decide +kernel
theorem dX5_warmFurnace_18 : decode cX5_warmFurnace 18 = .ok (.astore 4, 2) := by decide +kernel
theorem dX5_warmFurnace_20 : decode cX5_warmFurnace 20 = .ok (.aload 4, 2) := by decide +kernel
theorem dX5_warmFurnace_22 : decode cX5_warmFurnace 22 = .ok (.ifnull 33, 3) := by decide +kernel
theorem dX5_warmFurnace_25 : decode cX5_warmFurnace 25 = .ok (.aload 4, 2) := by decide +kernel
theorem dX5_warmFurnace_27 : decode cX5_warmFurnace 27 = .ok (.getfield 159, 3) := by decide +kernel
theorem dX5_warmFurnace_30 : decode cX5_warmFurnace 30 = .ok (.iconst (-1), 1) := by decide +kernel
theorem dX5_warmFurnace_31 : decode cX5_warmFurnace 31 = .ok (.if_icmp .eq 24, 3) := by decide +kernel
theorem dX5_warmFurnace_34 : decode cX5_warmFurnace 34 = .ok (.aload 4, 2) := by decide +kernel
theorem dX5_warmFurnace_36 : decode cX5_warmFurnace 36 = .ok (.sipush 1250, 3) := by decide +kernel
theorem dX5_warmFurnace_39 : decode cX5_warmFurnace 39 = .ok (.aload 4, 2) := by decide +kernel
theorem dX5_warmFurnace_41 : decode cX5_warmFurnace 41 = .ok (.getfield 204, 3) := by decide +kernel
theorem dX5_warmFurnace_44 : decode cX5_warmFurnace 44 = .ok (.aload_n 0, 1) := by decide +kernel
theorem dX5_warmFurnace_45 : decode cX5_warmFurnace 45 = .ok (.getfield 9, 3) := by decide +kernel
theorem dX5_warmFurnace_48 : decode cX5_warmFurnace 48 = .ok (.iadd, 1) := by decide +kernel
theorem dX5_warmFurnace_49 : decode cX5_warmFurnace 49 = .ok (.invokestatic 228, 3) := by decide +kernel
theorem dX5_warmFurnace_52 : decode cX5_warmFurnace 52 = .ok (.putfield 204, 3) := by decide +kernel
theorem dX5_warmFurnace_55 : decode cX5_warmFurnace 55 = .ok (.iinc 3 1, 3) := by decide +kernel
theorem dX5_warmFurnace_58 : decode cX5_warmFurnace 58 = .ok (.goto (-48), 3) := by decide +kernel
theorem dX5_warmFurnace_61 : decode cX5_warmFurnace 61 = .ok (.return_, 1) := by decide +kernel
theorem dX5_chargeFurnace_0 : decode cX5_chargeFurnace 0 = .ok (.aload_n 0, 1) := by decide +kernel
theorem dX5_chargeFurnace_1 : decode cX5_chargeFurnace 1 = .ok (.invokevirtual 234, 3) := by decide +kernel
theorem dX5_chargeFurnace_4 : decode cX5_chargeFurnace 4 = .ok (.astore_n 1, 1) := by decide +kernel
theorem dX5_chargeFurnace_5 : decode cX5_chargeFurnace 5 = .ok (.aload_n 1, 1) := by decide +kernel
theorem dX5_chargeFurnace_6 : decode cX5_chargeFurnace 6 = .ok (.ifnonnull 4, 3) := by decide +kernel
theorem dX5_chargeFurnace_9 : decode cX5_chargeFurnace 9 = .ok (.return_, 1) := by decide +kernel
theorem dX5_chargeFurnace_10 : decode cX5_chargeFurnace 10 = .ok (.iconst 0, 1) := by decide +kernel
theorem dX5_chargeFurnace_11 : decode cX5_chargeFurnace 11 = .ok (.istore_n 2, 1) := by decide +kernel
theorem dX5_chargeFurnace_12 : decode cX5_chargeFurnace 12 = .ok (.iload_n 2, 1) := by decide +kernel
theorem dX5_chargeFurnace_13 : decode cX5_chargeFurnace 13 = .ok (.aload_n 0, 1) := by decide +kernel
theorem dX5_chargeFurnace_14 : decode cX5_chargeFurnace 14 = .ok (.getfield 83, 3) := by decide +kernel
theorem dX5_chargeFurnace_17 : decode cX5_chargeFurnace 17 = .ok (.if_icmp .ge 96, 3) := by decide +kernel
theorem dX5_chargeFurnace_20 : decode cX5_chargeFurnace 20 = .ok (.aload_n 0, 1) := by decide +kernel
theorem dX5_chargeFurnace_21 : decode cX5_chargeFurnace 21 = .ok (.iload_n 2, 1) := by decide +kernel
theorem dX5_chargeFurnace_22 : decode cX5_chargeFurnace 22 = .ok (.invokevirtual 86, 3) := by decide +kernel
theorem dX5_chargeFurnace_25 : decode cX5_chargeFurnace 25 = .ok (.astore_n 3, 1) := by decide +kernel
theorem dX5_chargeFurnace_26 : decode cX5_chargeFurnace 26 = .ok (.aload_n 0, 1) := by decide +kernel
theorem dX5_chargeFurnace_27 : decode cX5_chargeFurnace 27 = .ok (.aload_n 3, 1) := by decide +kernel
theorem dX5_chargeFurnace_28 : decode cX5_chargeFurnace 28 = .ok (.getfield 128, 3) := by decide +kernel
theorem dX5_chargeFurnace_31 : decode cX5_chargeFurnace 31 = .ok (.invokevirtual 68, 3) := by decide +kernel
theorem dX5_chargeFurnace_34 : decode cX5_chargeFurnace 34 = .ok (.astore 4, 2) := by decide +kernel
theorem dX5_chargeFurnace_36 : decode cX5_chargeFurnace 36 = .ok (.aload 4, 2) := by decide +kernel
theorem dX5_chargeFurnace_38 : decode cX5_chargeFurnace 38 = .ok (.getfield 170, 3) := by decide +kernel
theorem dX5_chargeFurnace_41 : decode cX5_chargeFurnace 41 = .ok (.ifCond .le 66, 3) := by decide +kernel
theorem dX5_chargeFurnace_44 : decode cX5_chargeFurnace 44 = .ok (.aload_n 3, 1) := by decide +kernel
theorem dX5_chargeFurnace_45 : decode cX5_chargeFurnace 45 = .ok (.invokevirtual 185, 3) := by decide +kernel
theorem dX5_chargeFurnace_48 : decode cX5_chargeFurnace 48 = .ok (.ifCond .le 59, 3) := by decide +kernel
theorem dX5_chargeFurnace_51 : decode cX5_chargeFurnace 51 = .ok (.aload 4, 2) := by decide +kernel
theorem dX5_chargeFurnace_53 : decode cX5_chargeFurnace 53 = .ok (.dup, 1) := by decide +kernel
theorem dX5_chargeFurnace_54 : decode cX5_chargeFurnace 54 = .ok (.getfield 170, 3) := by decide +kernel
theorem dX5_chargeFurnace_57 : decode cX5_chargeFurnace 57 = .ok (.iconst 1, 1) := by decide +kernel
theorem dX5_chargeFurnace_58 : decode cX5_chargeFurnace 58 = .ok (.isub, 1) := by decide +kernel
theorem dX5_chargeFurnace_59 : decode cX5_chargeFurnace 59 = .ok (.putfield 170, 3) := by decide +kernel
theorem dX5_chargeFurnace_62 : decode cX5_chargeFurnace 62 = .ok (.aload_n 3, 1) := by decide +kernel
theorem dX5_chargeFurnace_63 : decode cX5_chargeFurnace 63 = .ok (.dup, 1) := by decide +kernel
theorem dX5_chargeFurnace_64 : decode cX5_chargeFurnace 64 = .ok (.getfield 144, 3) := by decide +kernel
theorem dX5_chargeFurnace_67 : decode cX5_chargeFurnace 67 = .ok (.iconst 1, 1) := by decide +kernel
theorem dX5_chargeFurnace_68 : decode cX5_chargeFurnace 68 = .ok (.iadd, 1) := by decide +kernel
theorem dX5_chargeFurnace_69 : decode cX5_chargeFurnace 69 = .ok (.putfield 144, 3) := by decide +kernel
theorem dX5_chargeFurnace_72 : decode cX5_chargeFurnace 72 = .ok (.aload_n 1, 1) := by decide +kernel
theorem dX5_chargeFurnace_73 : decode cX5_chargeFurnace 73 = .ok (.aload_n 3, 1) := by decide +kernel
theorem dX5_chargeFurnace_74 : decode cX5_chargeFurnace 74 = .ok (.getfield 122, 3) := by decide +kernel
theorem dX5_chargeFurnace_77 : decode cX5_chargeFurnace 77 = .ok (.putfield 159, 3) := by decide +kernel
theorem dX5_chargeFurnace_80 : decode cX5_chargeFurnace 80 = .ok (.aload_n 1, 1) := by decide +kernel
theorem dX5_chargeFurnace_81 : decode cX5_chargeFurnace 81 = .ok (.bipush 20, 2) := by decide +kernel
theorem dX5_chargeFurnace_83 : decode cX5_chargeFurnace 83 = .ok (.putfield 204, 3) := by decide +kernel
theorem dX5_chargeFurnace_86 : decode cX5_chargeFurnace 86 = .ok (.aload_n 1, 1) := by decide +kernel
theorem dX5_chargeFurnace_87 : decode cX5_chargeFurnace 87 = .ok (.iconst 0, 1) := by decide +kernel
theorem dX5_chargeFurnace_88 : decode cX5_chargeFurnace 88 = .ok (.putfield 238, 3) := by decide +kernel
theorem dX5_chargeFurnace_91 : decode cX5_chargeFurnace 91 = .ok (.aload_n 1, 1) := by decide +kernel
theorem dX5_chargeFurnace_92 : decode cX5_chargeFurnace 92 = .ok (.aload_n 0, 1) := by decide +kernel
theorem dX5_chargeFurnace_93 : decode cX5_chargeFurnace 93 = .ok (.aload_n 3, 1) := by decide +kernel
theorem dX5_chargeFurnace_94 : decode cX5_chargeFurnace 94 = .ok (.getfield 125, 3) := by decide +kernel
theorem dX5_chargeFurnace_97 : decode cX5_chargeFurnace 97 = .ok (.invokevirtual 76, 3) := by decide +kernel
theorem dX5_chargeFurnace_100 : decode cX5_chargeFurnace 100 = .ok (.getfield 239, 3) := by decide +kernel
theorem dX5_chargeFurnace_103 : decode cX5_chargeFurnace 103 = .ok (.putfield 240, 3) := by decide +kernel
theorem dX5_chargeFurnace_106 : decode cX5_chargeFurnace 106 = .ok (.return_, 1) := by decide +kernel
theorem dX5_chargeFurnace_107 : decode cX5_chargeFurnace 107 = .ok (.iinc 2 1, 3) := by decide +kernel
theorem dX5_chargeFurnace_110 : decode cX5_chargeFurnace 110 = .ok (.goto (-98), 3) := by decide +kernel
theorem dX5_chargeFurnace_113 : decode cX5_chargeFurnace 113 = .ok (.return_, 1) := by decide +kernel
theorem dX5_loadPress_0 : decode cX5_loadPress 0 = .ok (.iconst 0, 1) := by decide +kernel
theorem dX5_loadPress_1 : decode cX5_loadPress 1 = .ok (.istore_n 1, 1) := by decide +kernel
theorem dX5_loadPress_2 : decode cX5_loadPress 2 = .ok (.iload_n 1, 1) := by decide +kernel
theorem dX5_loadPress_3 : decode cX5_loadPress 3 = .ok (.aload_n 0, 1) := by decide +kernel
theorem dX5_loadPress_4 : decode cX5_loadPress 4 = .ok (.getfield 83, 3) := by decide +kernel
theorem dX5_loadPress_7 : decode cX5_loadPress 7 = .ok (.if_icmp .ge 60, 3) := by decide +kernel
theorem dX5_loadPress_10 : decode cX5_loadPress 10 = .ok (.aload_n 0, 1) := by decide +kernel
theorem dX5_loadPress_11 : decode cX5_loadPress 11 = .ok (.iload_n 1, 1) := by decide +kernel
theorem dX5_loadPress_12 : decode cX5_loadPress 12 = .ok (.invokevirtual 86, 3) := by decide +kernel
theorem dX5_loadPress_15 : decode cX5_loadPress 15 = .ok (.astore_n 2, 1) := by decide +kernel
theorem dX5_loadPress_16 : decode cX5_loadPress 16 = .ok (.aload_n 2, 1) := by decide +kernel
theorem dX5_loadPress_17 : decode cX5_loadPress 17 = .ok (.getfield 144, 3) := by decide +kernel
theorem dX5_loadPress_20 : decode cX5_loadPress 20 = .ok (.ifCond .le 41, 3) := by decide +kernel
theorem dX5_loadPress_23 : decode cX5_loadPress 23 = .ok (.aload_n 0, 1) := by decide +kernel
theorem dX5_loadPress_24 : decode cX5_loadPress 24 = .ok (.aload_n 2, 1) := by decide +kernel
theorem dX5_loadPress_25 : decode cX5_loadPress 25 = .ok (.getfield 125, 3) := by decide +kernel
theorem dX5_loadPress_28 : decode cX5_loadPress 28 = .ok (.invokevirtual 76, 3) := by decide +kernel
theorem dX5_loadPress_31 : decode cX5_loadPress 31 = .ok (.invokevirtual 241, 3) := by decide +kernel
theorem dX5_loadPress_34 : decode cX5_loadPress 34 = .ok (.ifCond .eq 27, 3) := by decide +kernel
theorem dX5_loadPress_37 : decode cX5_loadPress 37 = .ok (.aload_n 0, 1) := by decide +kernel
theorem dX5_loadPress_38 : decode cX5_loadPress 38 = .ok (.aload_n 2, 1) := by decide +kernel
theorem dX5_loadPress_39 : decode cX5_loadPress 39 = .ok (.invokevirtual 200, 3) := by decide +kernel
theorem dX5_loadPress_42 : decode cX5_loadPress 42 = .ok (.astore_n 3, 1) := by decide +kernel
theorem dX5_loadPress_43 : decode cX5_loadPress 43 = .ok (.aload_n 3, 1) := by decide +kernel
theorem dX5_loadPress_44 : decode cX5_loadPress 44 = .ok (.ifnull 17, 3) := by decide +kernel
theorem dX5_loadPress_47 : decode cX5_loadPress 47 = .ok (.aload_n 0, 1) := by decide +kernel
theorem dX5_loadPress_48 : decode cX5_loadPress 48 = .ok (.getfield 52, 3) := by decide +kernel
theorem dX5_loadPress_51 : decode cX5_loadPress 51 = .ok (.aload_n 3, 1) := by decide +kernel
theorem dX5_loadPress_52 : decode cX5_loadPress 52 = .ok (.invokevirtual 97, 3) := by decide +kernel
theorem dX5_loadPress_55 : decode cX5_loadPress 55 = .ok (.aload_n 3, 1) := by decide +kernel
theorem dX5_loadPress_56 : decode cX5_loadPress 56 = .ok (.iconst (-1), 1) := by decide +kernel
theorem dX5_loadPress_57 : decode cX5_loadPress 57 = .ok (.putfield 159, 3) := by decide +kernel
theorem dX5_loadPress_60 : decode cX5_loadPress 60 = .ok (.return_, 1) := by decide +kernel
theorem dX5_loadPress_61 : decode cX5_loadPress 61 = .ok (.iinc 1 1, 3) := by decide +kernel
theorem dX5_loadPress_64 : decode cX5_loadPress 64 = .ok (.goto (-62), 3) := by decide +kernel
theorem dX5_loadPress_67 : decode cX5_loadPress 67 = .ok (.return_, 1) := by decide +kernel
theorem dX5_workPress_0 : decode cX5_workPress 0 = .ok (.aload_n 0, 1) := by decide +kernel
theorem dX5_workPress_1 : decode cX5_workPress 1 = .ok (.iload_n 1, 1) := by decide +kernel
theorem dX5_workPress_2 : decode cX5_workPress 2 = .ok (.invokevirtual 86, 3) := by decide +kernel
theorem dX5_workPress_5 : decode cX5_workPress 5 = .ok (.astore_n 2, 1) := by decide +kernel
theorem dX5_workPress_6 : decode cX5_workPress 6 = .ok (.aload_n 0, 1) := by decide +kernel
theorem dX5_workPress_7 : decode cX5_workPress 7 = .ok (.aload_n 2, 1) := by decide +kernel
theorem dX5_workPress_8 : decode cX5_workPress 8 = .ok (.getfield 128, 3) := by decide +kernel
theorem dX5_workPress_11 : decode cX5_workPress 11 = .ok (.invokevirtual 68, 3) := by decide +kernel
theorem dX5_workPress_14 : decode cX5_workPress 14 = .ok (.astore_n 3, 1) := by decide +kernel
theorem dX5_workPress_15 : decode cX5_workPress 15 = .ok (.aload_n 0, 1) := by decide +kernel
theorem dX5_workPress_16 : decode cX5_workPress 16 = .ok (.aload_n 2, 1) := by decide +kernel
theorem dX5_workPress_17 : decode cX5_workPress 17 = .ok (.getfield 125, 3) := by decide +kernel
theorem dX5_workPress_20 : decode cX5_workPress 20 = .ok (.invokevirtual 76, 3) := by decide +kernel
theorem dX5_workPress_23 : decode cX5_workPress 23 = .ok (.astore 4, 2) := by decide +kernel
theorem dX5_workPress_25 : decode cX5_workPress 25 = .ok (.aload 4, 2) := by decide +kernel
theorem dX5_workPress_27 : decode cX5_workPress 27 = .ok (.invokevirtual 241, 3) := by decide +kernel
theorem dX5_workPress_30 : decode cX5_workPress 30 = .ok (.ifCond .eq 17, 3) := by decide +kernel
theorem dX5_workPress_33 : decode cX5_workPress 33 = .ok (.aload_n 0, 1) := by decide +kernel
theorem dX5_workPress_34 : decode cX5_workPress 34 = .ok (.getfield 52, 3) := by decide +kernel
theorem dX5_workPress_37 : decode cX5_workPress 37 = .ok (.getfield 204, 3) := by decide +kernel
theorem dX5_workPress_40 : decode cX5_workPress 40 = .ok (.aload_n 3, 1) := by decide +kernel
theorem dX5_workPress_41 : decode cX5_workPress 41 = .ok (.getfield 173, 3) := by decide +kernel
theorem dX5_workPress_44 : decode cX5_workPress 44 = .ok (.if_icmp .ge 10, 3) := by decide +kernel
theorem dX5_workPress_47 : decode cX5_workPress 47 = .ok (.aload_n 0, 1) := by decide +kernel
theorem dX5_workPress_48 : decode cX5_workPress 48 = .ok (.aload_n 2, 1) := by decide +kernel
theorem dX5_workPress_49 : decode cX5_workPress 49 = .ok (.aload_n 3, 1) := by decide +kernel
theorem dX5_workPress_50 : decode cX5_workPress 50 = .ok (.invokevirtual 244, 3) := by decide +kernel
theorem dX5_workPress_53 : decode cX5_workPress 53 = .ok (.return_, 1) := by decide +kernel
theorem dX5_workPress_54 : decode cX5_workPress 54 = .ok (.aload 4, 2) := by decide +kernel
theorem dX5_workPress_56 : decode cX5_workPress 56 = .ok (.dup, 1) := by decide +kernel
theorem dX5_workPress_57 : decode cX5_workPress 57 = .ok (.getfield 248, 3) := by decide +kernel
theorem dX5_workPress_60 : decode cX5_workPress 60 = .ok (.iconst 1, 1) := by decide +kernel
theorem dX5_workPress_61 : decode cX5_workPress 61 = .ok (.iconst 0, 1) := by decide +kernel
theorem dX5_workPress_62 : decode cX5_workPress 62 = .ok (.aload_n 3, 1) := by decide +kernel
theorem dX5_workPress_63 : decode cX5_workPress 63 = .ok (.getfield 176, 3) := by decide +kernel
theorem dX5_workPress_66 : decode cX5_workPress 66 = .ok (.aload_n 0, 1) := by decide +kernel
theorem dX5_workPress_67 : decode cX5_workPress 67 = .ok (.getfield 52, 3) := by decide +kernel
theorem dX5_workPress_70 : decode cX5_workPress 70 = .ok (.getfield 204, 3) := by decide +kernel
theorem dX5_workPress_73 : decode cX5_workPress 73 = .ok (.isub, 1) := by decide +kernel
theorem dX5_workPress_74 : decode cX5_workPress 74 = .ok (.invokestatic 251, 3) := by decide +kernel
theorem dX5_workPress_77 : decode cX5_workPress 77 = .ok (.bipush 100, 2) := by decide +kernel
theorem dX5_workPress_79 : decode cX5_workPress 79 = .ok (.idiv, 1) := by decide +kernel
theorem dX5_workPress_80 : decode cX5_workPress 80 = .ok (.iadd, 1) := by decide +kernel
theorem dX5_workPress_81 : decode cX5_workPress 81 = .ok (.iadd, 1) := by decide +kernel
theorem dX5_workPress_82 : decode cX5_workPress 82 = .ok (.putfield 248, 3) := by decide +kernel
theorem dX5_workPress_85 : decode cX5_workPress 85 = .ok (.aload_n 0, 1) := by decide +kernel
theorem dX5_workPress_86 : decode cX5_workPress 86 = .ok (.getfield 52, 3) := by decide +kernel
theorem dX5_workPress_89 : decode cX5_workPress 89 = .ok (.bipush 20, 2) := by decide +kernel
theorem dX5_workPress_91 : decode cX5_workPress 91 = .ok (.aload_n 0, 1) := by decide +kernel
theorem dX5_workPress_92 : decode cX5_workPress 92 = .ok (.getfield 52, 3) := by decide +kernel
theorem dX5_workPress_95 : decode cX5_workPress 95 = .ok (.getfield 204, 3) := by decide +kernel
theorem dX5_workPress_98 : decode cX5_workPress 98 = .ok (.aload_n 0, 1) := by decide +kernel
theorem dX5_workPress_99 : decode cX5_workPress 99 = .ok (.getfield 15, 3) := by decide +kernel
theorem dX5_workPress_102 : decode cX5_workPress 102 = .ok (.isub, 1) := by decide +kernel
theorem dX5_workPress_103 : decode cX5_workPress 103 = .ok (.invokestatic 251, 3) := by decide +kernel
theorem dX5_workPress_106 : decode cX5_workPress 106 = .ok (.putfield 204, 3) := by decide +kernel
theorem dX5_workPress_109 : decode cX5_workPress 109 = .ok (.aload_n 0, 1) := by decide +kernel
theorem dX5_workPress_110 : decode cX5_workPress 110 = .ok (.getfield 52, 3) := by decide +kernel
theorem dX5_workPress_113 : decode cX5_workPress 113 = .ok (.dup, 1) := by decide +kernel
theorem dX5_workPress_114 : decode cX5_workPress 114 = .ok (.getfield 240, 3) := by decide +kernel
theorem dX5_workPress_117 : decode cX5_workPress 117 = .ok (.iconst 1, 1) := by decide +kernel
theorem dX5_workPress_118 : decode cX5_workPress 118 = .ok (.isub, 1) := by decide +kernel
theorem dX5_workPress_119 : decode cX5_workPress 119 = .ok (.putfield 240, 3) := by decide +kernel
theorem dX5_workPress_122 : decode cX5_workPress 122 = .ok (.aload_n 0, 1) := by decide +kernel
theorem dX5_workPress_123 : decode cX5_workPress 123 = .ok (.dup, 1) := by decide +kernel
theorem dX5_workPress_124 : decode cX5_workPress 124 = .ok (.getfield 110, 3) := by decide +kernel
theorem dX5_workPress_127 : decode cX5_workPress 127 = .ok (.iconst 1, 1) := by decide +kernel
theorem dX5_workPress_128 : decode cX5_workPress 128 = .ok (.iadd, 1) := by decide +kernel
theorem dX5_workPress_129 : decode cX5_workPress 129 = .ok (.putfield 110, 3) := by decide +kernel
theorem dX5_workPress_132 : decode cX5_workPress 132 = .ok (.aload_n 0, 1) := by decide +kernel
theorem dX5_workPress_133 : decode cX5_workPress 133 = .ok (.getfield 52, 3) := by decide +kernel
theorem dX5_workPress_136 : decode cX5_workPress 136 = .ok (.getfield 240, 3) := by decide +kernel
theorem dX5_workPress_139 : decode cX5_workPress 139 = .ok (.ifCond .le 4, 3) := by decide +kernel
theorem dX5_workPress_142 : decode cX5_workPress 142 = .ok (.return_, 1) := by decide +kernel
theorem dX5_workPress_143 : decode cX5_workPress 143 = .ok (.aload_n 0, 1) := by decide +kernel
theorem dX5_workPress_144 : decode cX5_workPress 144 = .ok (.getfield 52, 3) := by decide +kernel
theorem dX5_workPress_147 : decode cX5_workPress 147 = .ok (.iconst (-1), 1) := by decide +kernel
theorem dX5_workPress_148 : decode cX5_workPress 148 = .ok (.putfield 159, 3) := by decide +kernel
theorem dX5_workPress_151 : decode cX5_workPress 151 = .ok (.aload_n 2, 1) := by decide +kernel
theorem dX5_workPress_152 : decode cX5_workPress 152 = .ok (.dup, 1) := by decide +kernel
theorem dX5_workPress_153 : decode cX5_workPress 153 = .ok (.getfield 144, 3) := by decide +kernel
theorem dX5_workPress_156 : decode cX5_workPress 156 = .ok (.iconst 1, 1) := by decide +kernel
theorem dX5_workPress_157 : decode cX5_workPress 157 = .ok (.isub, 1) := by decide +kernel
theorem dX5_workPress_158 : decode cX5_workPress 158 = .ok (.putfield 144, 3) := by decide +kernel
theorem dX5_workPress_161 : decode cX5_workPress 161 = .ok (.aload_n 2, 1) := by decide +kernel
theorem dX5_workPress_162 : decode cX5_workPress 162 = .ok (.dup, 1) := by decide +kernel
theorem dX5_workPress_163 : decode cX5_workPress 163 = .ok (.getfield 134, 3) := by decide +kernel
theorem dX5_workPress_166 : decode cX5_workPress 166 = .ok (.iconst 1, 1) := by decide +kernel
theorem dX5_workPress_167 : decode cX5_workPress 167 = .ok (.iadd, 1) := by decide +kernel
theorem dX5_workPress_168 : decode cX5_workPress 168 = .ok (.putfield 134, 3) := by decide +kernel
theorem dX5_workPress_171 : decode cX5_workPress 171 = .ok (.aload_n 3, 1) := by decide +kernel
theorem dX5_workPress_172 : decode cX5_workPress 172 = .ok (.dup, 1) := by decide +kernel
theorem dX5_workPress_173 : decode cX5_workPress 173 = .ok (.getfield 169, 3) := by decide +kernel
theorem dX5_workPress_176 : decode cX5_workPress 176 = .ok (.iconst 1, 1) := by decide +kernel
theorem dX5_workPress_177 : decode cX5_workPress 177 = .ok (.iadd, 1) := by decide +kernel
theorem dX5_workPress_178 : decode cX5_workPress 178 = .ok (.putfield 169, 3) := by decide +kernel
theorem dX5_workPress_181 : decode cX5_workPress 181 = .ok (.aload 4, 2) := by decide +kernel
theorem dX5_workPress_183 : decode cX5_workPress 183 = .ok (.dup, 1) := by decide +kernel
theorem dX5_workPress_184 : decode cX5_workPress 184 = .ok (.getfield 254, 3) := by decide +kernel
theorem dX5_workPress_187 : decode cX5_workPress 187 = .ok (.iconst 1, 1) := by decide +kernel
theorem dX5_workPress_188 : decode cX5_workPress 188 = .ok (.iadd, 1) := by decide +kernel
theorem dX5_workPress_189 : decode cX5_workPress 189 = .ok (.putfield 254, 3) := by decide +kernel
theorem dX5_workPress_192 : decode cX5_workPress 192 = .ok (.aload_n 2, 1) := by decide +kernel
theorem dX5_workPress_193 : decode cX5_workPress 193 = .ok (.getfield 134, 3) := by decide +kernel
theorem dX5_workPress_196 : decode cX5_workPress 196 = .ok (.aload_n 2, 1) := by decide +kernel
theorem dX5_workPress_197 : decode cX5_workPress 197 = .ok (.getfield 131, 3) := by decide +kernel
theorem dX5_workPress_200 : decode cX5_workPress 200 = .ok (.if_icmp .lt 13, 3) := by decide +kernel
theorem dX5_workPress_203 : decode cX5_workPress 203 = .ok (.aload_n 0, 1) := by decide +kernel
theorem dX5_workPress_204 : decode cX5_workPress 204 = .ok (.aload_n 2, 1) := by decide +kernel
theorem dX5_workPress_205 : decode cX5_workPress 205 = .ok (.invokevirtual 255, 3) := by decide +kernel
theorem dX5_workPress_208 : decode cX5_workPress 208 = .ok (.aload_n 0, 1) := by decide +kernel
theorem dX5_workPress_209 : decode cX5_workPress 209 = .ok (.iload_n 1, 1) := by decide +kernel
theorem dX5_workPress_210 : decode cX5_workPress 210 = .ok (.invokevirtual 165, 3) := by decide +kernel
theorem dX5_workPress_213 : decode cX5_workPress 213 = .ok (.return_, 1) := by decide +kernel
theorem dX5_sendBack_0 : decode cX5_sendBack 0 = .ok (.aload_n 0, 1) := by decide +kernel
theorem dX5_sendBack_1 : decode cX5_sendBack 1 = .ok (.getfield 52, 3) := by decide +kernel
theorem dX5_sendBack_4 : decode cX5_sendBack 4 = .ok (.dup, 1) := by decide +kernel
theorem dX5_sendBack_5 : decode cX5_sendBack 5 = .ok (.getfield 238, 3) := by decide +kernel
theorem dX5_sendBack_8 : decode cX5_sendBack 8 = .ok (.iconst 1, 1) := by decide +kernel
theorem dX5_sendBack_9 : decode cX5_sendBack 9 = .ok (.iadd, 1) := by decide +kernel
theorem dX5_sendBack_10 : decode cX5_sendBack 10 = .ok (.putfield 238, 3) := by decide +kernel
theorem dX5_sendBack_13 : decode cX5_sendBack 13 = .ok (.aload_n 0, 1) := by decide +kernel
theorem dX5_sendBack_14 : decode cX5_sendBack 14 = .ok (.invokevirtual 234, 3) := by decide +kernel
theorem dX5_sendBack_17 : decode cX5_sendBack 17 = .ok (.astore_n 3, 1) := by decide +kernel
theorem dX5_sendBack_18 : decode cX5_sendBack 18 = .ok (.aload_n 3, 1) := by decide +kernel
theorem dX5_sendBack_19 : decode cX5_sendBack 19 = .ok (.ifnull 17, 3) := by decide +kernel
theorem dX5_sendBack_22 : decode cX5_sendBack 22 = .ok (.aload_n 0, 1) := by decide +kernel
theorem dX5_sendBack_23 : decode cX5_sendBack 23 = .ok (.getfield 52, 3) := by decide +kernel
theorem dX5_sendBack_26 : decode cX5_sendBack 26 = .ok (.getfield 238, 3) := by decide +kernel
theorem dX5_sendBack_29 : decode cX5_sendBack 29 = .ok (.aload_n 0, 1) := by decide +kernel
theorem dX5_sendBack_30 : decode cX5_sendBack 30 = .ok (.getfield 18, 3) := by decide +kernel
theorem dX5_sendBack_33 : decode cX5_sendBack 33 = .ok (.if_icmp .le 26, 3) := by decide +kernel
theorem dX5_sendBack_36 : decode cX5_sendBack 36 = .ok (.aload_n 1, 1) := by decide +kernel
theorem dX5_sendBack_37 : decode cX5_sendBack 37 = .ok (.dup, 1) := by decide +kernel
theorem dX5_sendBack_38 : decode cX5_sendBack 38 = .ok (.getfield 144, 3) := by decide +kernel
theorem dX5_sendBack_41 : decode cX5_sendBack 41 = .ok (.iconst 1, 1) := by decide +kernel
theorem dX5_sendBack_42 : decode cX5_sendBack 42 = .ok (.isub, 1) := by decide +kernel
theorem dX5_sendBack_43 : decode cX5_sendBack 43 = .ok (.putfield 144, 3) := by decide +kernel
theorem dX5_sendBack_46 : decode cX5_sendBack 46 = .ok (.aload_n 2, 1) := by decide +kernel
theorem dX5_sendBack_47 : decode cX5_sendBack 47 = .ok (.dup, 1) := by decide +kernel
theorem dX5_sendBack_48 : decode cX5_sendBack 48 = .ok (.getfield 162, 3) := by decide +kernel
theorem dX5_sendBack_51 : decode cX5_sendBack 51 = .ok (.iconst 1, 1) := by decide +kernel
theorem dX5_sendBack_52 : decode cX5_sendBack 52 = .ok (.iadd, 1) := by decide +kernel
theorem dX5_sendBack_53 : decode cX5_sendBack 53 = .ok (.putfield 162, 3) := by decide +kernel
theorem dX5_sendBack_56 : decode cX5_sendBack 56 = .ok (.goto 11, 3) := by decide +kernel
theorem dX5_sendBack_59 : decode cX5_sendBack 59 = .ok (.aload_n 3, 1) := by decide +kernel
theorem dX5_sendBack_60 : decode cX5_sendBack 60 = .ok (.aload_n 0, 1) := by decide +kernel
theorem dX5_sendBack_61 : decode cX5_sendBack 61 = .ok (.getfield 52, 3) := by decide +kernel
theorem dX5_sendBack_64 : decode cX5_sendBack 64 = .ok (.invokevirtual 97, 3) := by decide +kernel
theorem dX5_sendBack_67 : decode cX5_sendBack 67 = .ok (.aload_n 0, 1) := by decide +kernel
theorem dX5_sendBack_68 : decode cX5_sendBack 68 = .ok (.getfield 52, 3) := by decide +kernel
theorem dX5_sendBack_71 : decode cX5_sendBack 71 = .ok (.iconst (-1), 1) := by decide +kernel
theorem dX5_sendBack_72 : decode cX5_sendBack 72 = .ok (.putfield 159, 3) := by decide +kernel
theorem dX5_sendBack_75 : decode cX5_sendBack 75 = .ok (.return_, 1) := by decide +kernel
theorem dX5_countGone_0 : decode cX5_countGone 0 = .ok (.aload_n 0, 1) := by decide +kernel
theorem dX5_countGone_1 : decode cX5_countGone 1 = .ok (.dup, 1) := by decide +kernel
theorem dX5_countGone_2 : decode cX5_countGone 2 = .ok (.getfield 113, 3) := by decide +kernel
theorem dX5_countGone_5 : decode cX5_countGone 5 = .ok (.iconst 1, 1) := by decide +kernel
theorem dX5_countGone_6 : decode cX5_countGone 6 = .ok (.iadd, 1) := by decide +kernel
theorem dX5_countGone_7 : decode cX5_countGone 7 = .ok (.putfield 113, 3) := by decide +kernel
theorem dX5_countGone_10 : decode cX5_countGone 10 = .ok (.aload_n 0, 1) := by decide +kernel
theorem dX5_countGone_11 : decode cX5_countGone 11 = .ok (.getfield 107, 3) := by decide +kernel
theorem dX5_countGone_14 : decode cX5_countGone 14 = .ok (.aload_n 1, 1) := by decide +kernel
theorem dX5_countGone_15 : decode cX5_countGone 15 = .ok (.getfield 137, 3) := by decide +kernel
theorem dX5_countGone_18 : decode cX5_countGone 18 = .ok (.isub, 1) := by decide +kernel
theorem dX5_countGone_19 : decode cX5_countGone 19 = .ok (.istore_n 2, 1) := by decide +kernel
theorem dX5_countGone_20 : decode cX5_countGone 20 = .ok (.iload_n 2, 1) := by decide +kernel
theorem dX5_countGone_21 : decode cX5_countGone 21 = .ok (.ifCond .le 23, 3) := by decide +kernel
theorem dX5_countGone_24 : decode cX5_countGone 24 = .ok (.aload_n 0, 1) := by decide +kernel
theorem dX5_countGone_25 : decode cX5_countGone 25 = .ok (.dup, 1) := by decide +kernel
theorem dX5_countGone_26 : decode cX5_countGone 26 = .ok (.getfield 116, 3) := by decide +kernel
theorem dX5_countGone_29 : decode cX5_countGone 29 = .ok (.iconst 1, 1) := by decide +kernel
theorem dX5_countGone_30 : decode cX5_countGone 30 = .ok (.iadd, 1) := by decide +kernel
theorem dX5_countGone_31 : decode cX5_countGone 31 = .ok (.putfield 116, 3) := by decide +kernel
theorem dX5_countGone_34 : decode cX5_countGone 34 = .ok (.aload_n 0, 1) := by decide +kernel
theorem dX5_countGone_35 : decode cX5_countGone 35 = .ok (.dup, 1) := by decide +kernel
theorem dX5_countGone_36 : decode cX5_countGone 36 = .ok (.getfield 119, 3) := by decide +kernel
theorem dX5_countGone_39 : decode cX5_countGone 39 = .ok (.iload_n 2, 1) := by decide +kernel
theorem dX5_countGone_40 : decode cX5_countGone 40 = .ok (.iadd, 1) := by decide +kernel
theorem dX5_countGone_41 : decode cX5_countGone 41 = .ok (.putfield 119, 3) := by decide +kernel
theorem dX5_countGone_44 : decode cX5_countGone 44 = .ok (.return_, 1) := by decide +kernel
theorem dX5_tendDies_0 : decode cX5_tendDies 0 = .ok (.aload_n 0, 1) := by decide +kernel
theorem dX5_tendDies_1 : decode cX5_tendDies 1 = .ok (.invokevirtual 258, 3) := by decide +kernel
theorem dX5_tendDies_4 : decode cX5_tendDies 4 = .ok (.istore_n 1, 1) := by decide +kernel
theorem dX5_tendDies_5 : decode cX5_tendDies 5 = .ok (.iload_n 1, 1) := by decide +kernel
theorem dX5_tendDies_6 : decode cX5_tendDies 6 = .ok (.iconst (-1), 1) := by decide +kernel
theorem dX5_tendDies_7 : decode cX5_tendDies 7 = .ok (.if_icmp .eq 21, 3) := by decide +kernel
theorem dX5_tendDies_10 : decode cX5_tendDies 10 = .ok (.aload_n 0, 1) := by decide +kernel
theorem dX5_tendDies_11 : decode cX5_tendDies 11 = .ok (.iload_n 1, 1) := by decide +kernel
theorem dX5_tendDies_12 : decode cX5_tendDies 12 = .ok (.invokevirtual 76, 3) := by decide +kernel
theorem dX5_tendDies_15 : decode cX5_tendDies 15 = .ok (.astore_n 2, 1) := by decide +kernel
theorem dX5_tendDies_16 : decode cX5_tendDies 16 = .ok (.aload_n 2, 1) := by decide +kernel
theorem dX5_tendDies_17 : decode cX5_tendDies 17 = .ok (.invokevirtual 261, 3) := by decide +kernel
theorem dX5_tendDies_20 : decode cX5_tendDies 20 = .ok (.aload_n 2, 1) := by decide +kernel
theorem dX5_tendDies_21 : decode cX5_tendDies 21 = .ok (.invokevirtual 193, 3) := by decide +kernel
theorem dX5_tendDies_24 : decode cX5_tendDies 24 = .ok (.ifCond .eq 4, 3) := by decide +kernel
theorem dX5_tendDies_27 : decode cX5_tendDies 27 = .ok (.return_, 1) := by decide +kernel
theorem dX5_tendDies_28 : decode cX5_tendDies 28 = .ok (.iconst 0, 1) := by decide +kernel
theorem dX5_tendDies_29 : decode cX5_tendDies 29 = .ok (.istore_n 2, 1) := by decide +kernel
theorem dX5_tendDies_30 : decode cX5_tendDies 30 = .ok (.iload_n 2, 1) := by decide +kernel
theorem dX5_tendDies_31 : decode cX5_tendDies 31 = .ok (.iconst 5, 1) := by decide +kernel
theorem dX5_tendDies_32 : decode cX5_tendDies 32 = .ok (.if_icmp .ge 31, 3) := by decide +kernel
theorem dX5_tendDies_35 : decode cX5_tendDies 35 = .ok (.aload_n 0, 1) := by decide +kernel
theorem dX5_tendDies_36 : decode cX5_tendDies 36 = .ok (.iload_n 2, 1) := by decide +kernel
theorem dX5_tendDies_37 : decode cX5_tendDies 37 = .ok (.invokevirtual 76, 3) := by decide +kernel
theorem dX5_tendDies_40 : decode cX5_tendDies 40 = .ok (.astore_n 3, 1) := by decide +kernel
theorem dX5_tendDies_41 : decode cX5_tendDies 41 = .ok (.aload_n 3, 1) := by decide +kernel
theorem dX5_tendDies_42 : decode cX5_tendDies 42 = .ok (.invokevirtual 197, 3) := by decide +kernel
theorem dX5_tendDies_45 : decode cX5_tendDies 45 = .ok (.ifCond .eq 12, 3) := by decide +kernel
theorem dX5_tendDies_48 : decode cX5_tendDies 48 = .ok (.aload_n 3, 1) := by decide +kernel
theorem dX5_tendDies_49 : decode cX5_tendDies 49 = .ok (.aload_n 0, 1) := by decide +kernel
theorem dX5_tendDies_50 : decode cX5_tendDies 50 = .ok (.getfield 21, 3) := by decide +kernel
theorem dX5_tendDies_53 : decode cX5_tendDies 53 = .ok (.putfield 264, 3) := by decide +kernel
theorem dX5_tendDies_56 : decode cX5_tendDies 56 = .ok (.return_, 1) := by decide +kernel
theorem dX5_tendDies_57 : decode cX5_tendDies 57 = .ok (.iinc 2 1, 3) := by decide +kernel
theorem dX5_tendDies_60 : decode cX5_tendDies 60 = .ok (.goto (-30), 3) := by decide +kernel
theorem dX5_tendDies_63 : decode cX5_tendDies 63 = .ok (.return_, 1) := by decide +kernel
theorem dJxe99ae_isNaN_b9ae7_0 : decode cJxe99ae_isNaN_b9ae7 0 = .ok (.dload_n 0, 1) := by decide +kernel
theorem dJxe99ae_isNaN_b9ae7_1 : decode cJxe99ae_isNaN_b9ae7 1 = .ok (.dload_n 0, 1) := by decide +kernel
theorem dJxe99ae_isNaN_b9ae7_2 : decode cJxe99ae_isNaN_b9ae7 2 = .ok (.dcmp .l, 1) := by decide +kernel
theorem dJxe99ae_isNaN_b9ae7_3 : decode cJxe99ae_isNaN_b9ae7 3 = .ok (.ifCond .eq 7, 3) := by decide +kernel
theorem dJxe99ae_isNaN_b9ae7_6 : decode cJxe99ae_isNaN_b9ae7 6 = .ok (.iconst 1, 1) := by decide +kernel
theorem dJxe99ae_isNaN_b9ae7_7 : decode cJxe99ae_isNaN_b9ae7 7 = .ok (.goto 4, 3) := by decide +kernel
theorem dJxe99ae_isNaN_b9ae7_10 : decode cJxe99ae_isNaN_b9ae7 10 = .ok (.iconst 0, 1) := by decide +kernel
theorem dJxe99ae_isNaN_b9ae7_11 : decode cJxe99ae_isNaN_b9ae7 11 = .ok (.ireturn, 1) := by decide +kernel
theorem dJxe99ae_doubleToLongBits_ccdee_0 : decode cJxe99ae_doubleToLongBits_ccdee 0 = .ok (.dload_n 0, 1) := by decide +kernel
theorem dJxe99ae_doubleToLongBits_ccdee_1 : decode cJxe99ae_doubleToLongBits_ccdee 1 = .ok (.invokestatic 122, 3) := by decide +kernel
theorem dJxe99ae_doubleToLongBits_ccdee_4 : decode cJxe99ae_doubleToLongBits_ccdee 4 = .ok (.ifCond .ne 8, 3) := by decide +kernel
theorem dJxe99ae_doubleToLongBits_ccdee_7 : decode cJxe99ae_doubleToLongBits_ccdee 7 = .ok (.dload_n 0, 1) := by decide +kernel
theorem dJxe99ae_doubleToLongBits_ccdee_8 : decode cJxe99ae_doubleToLongBits_ccdee 8 = .ok (.invokestatic 134, 3) := by decide +kernel
theorem dJxe99ae_doubleToLongBits_ccdee_11 : decode cJxe99ae_doubleToLongBits_ccdee 11 = .ok (.lreturn, 1) := by decide +kernel
theorem dJxe99ae_doubleToLongBits_ccdee_12 : decode cJxe99ae_doubleToLongBits_ccdee 12 = .ok (.ldc2_w 137, 3) := by decide +kernel
theorem dJxe99ae_doubleToLongBits_ccdee_15 : decode cJxe99ae_doubleToLongBits_ccdee 15 = .ok (.lreturn, 1) := by decide +kernel
theorem dJ9_max_7cf53_0 : decode cJ9_max_7cf53 0 = .ok (.iload_n 0, 1) := by decide +kernel
theorem dJ9_max_7cf53_1 : decode cJ9_max_7cf53 1 = .ok (.iload_n 1, 1) := by decide +kernel
theorem dJ9_max_7cf53_2 : decode cJ9_max_7cf53 2 = .ok (.if_icmp .lt 7, 3) := by decide +kernel
theorem dJ9_max_7cf53_5 : decode cJ9_max_7cf53 5 = .ok (.iload_n 0, 1) := by decide +kernel
theorem dJ9_max_7cf53_6 : decode cJ9_max_7cf53 6 = .ok (.goto 4, 3) := by decide +kernel
theorem dJ9_max_7cf53_9 : decode cJ9_max_7cf53 9 = .ok (.iload_n 1, 1) := by decide +kernel
theorem dJ9_max_7cf53_10 : decode cJ9_max_7cf53 10 = .ok (.ireturn, 1) := by decide +kernel
theorem dJ9_min_7cf53_0 : decode cJ9_min_7cf53 0 = .ok (.iload_n 0, 1) := by decide +kernel
theorem dJ9_min_7cf53_1 : decode cJ9_min_7cf53 1 = .ok (.iload_n 1, 1) := by decide +kernel
theorem dJ9_min_7cf53_2 : decode cJ9_min_7cf53 2 = .ok (.if_icmp .gt 7, 3) := by decide +kernel
theorem dJ9_min_7cf53_5 : decode cJ9_min_7cf53 5 = .ok (.iload_n 0, 1) := by decide +kernel
theorem dJ9_min_7cf53_6 : decode cJ9_min_7cf53 6 = .ok (.goto 4, 3) := by decide +kernel
theorem dJ9_min_7cf53_9 : decode cJ9_min_7cf53 9 = .ok (.iload_n 1, 1) := by decide +kernel
theorem dJ9_min_7cf53_10 : decode cJ9_min_7cf53 10 = .ok (.ireturn, 1) := by decide +kernel
end
section
theorem dX6_init_0 : decode cX6_init 0 = .ok (.aload_n 0, 1) := by decide +kernel
theorem dX6_init_1 : decode cX6_init 1 = .ok (.invokespecial 1, 3) := by decide +kernel
theorem dX6_init_4 : decode cX6_init 4 = .ok (.aload_n 0, 1) := by decide +kernel
theorem dX6_init_5 : decode cX6_init 5 = .ok (.new 7, 3) := by decide +kernel
theorem dX6_init_8 : decode cX6_init 8 = .ok (.dup, 1) := by decide +kernel
theorem dX6_init_9 : decode cX6_init 9 = .ok (.invokespecial 9, 3) := by decide +kernel
theorem dX6_init_12 : decode cX6_init 12 = .ok (.putfield 10, 3) := by decide +kernel
theorem dX6_init_15 : decode cX6_init 15 = .ok (.aload_n 0, 1) := by decide +kernel
theorem dX6_init_16 : decode cX6_init 16 = .ok (.new 7, 3) := by decide +kernel
theorem dX6_init_19 : decode cX6_init 19 = .ok (.dup, 1) := by decide +kernel
theorem dX6_init_20 : decode cX6_init 20 = .ok (.invokespecial 9, 3) := by decide +kernel
theorem dX6_init_23 : decode cX6_init 23 = .ok (.putfield 16, 3) := by decide +kernel
theorem dX6_init_26 : decode cX6_init 26 = .ok (.aload_n 0, 1) := by decide +kernel
theorem dX6_init_27 : decode cX6_init 27 = .ok (.bipush 6, 2) := by decide +kernel
theorem dX6_init_29 : decode cX6_init 29 = .ok (.anewarray 7, 3) := by decide +kernel
theorem dX6_init_32 : decode cX6_init 32 = .ok (.putfield 19, 3) := by decide +kernel
theorem dX6_init_35 : decode cX6_init 35 = .ok (.iconst 0, 1) := by decide +kernel
theorem dX6_init_36 : decode cX6_init 36 = .ok (.istore_n 1, 1) := by decide +kernel
theorem dX6_init_37 : decode cX6_init 37 = .ok (.iload_n 1, 1) := by decide +kernel
theorem dX6_init_38 : decode cX6_init 38 = .ok (.aload_n 0, 1) := by decide +kernel
theorem dX6_init_39 : decode cX6_init 39 = .ok (.getfield 19, 3) := by decide +kernel
theorem dX6_init_42 : decode cX6_init 42 = .ok (.arraylength, 1) := by decide +kernel
theorem dX6_init_43 : decode cX6_init 43 = .ok (.if_icmp .ge 22, 3) := by decide +kernel
theorem dX6_init_46 : decode cX6_init 46 = .ok (.aload_n 0, 1) := by decide +kernel
theorem dX6_init_47 : decode cX6_init 47 = .ok (.getfield 19, 3) := by decide +kernel
theorem dX6_init_50 : decode cX6_init 50 = .ok (.iload_n 1, 1) := by decide +kernel
theorem dX6_init_51 : decode cX6_init 51 = .ok (.new 7, 3) := by decide +kernel
theorem dX6_init_54 : decode cX6_init 54 = .ok (.dup, 1) := by decide +kernel
theorem dX6_init_55 : decode cX6_init 55 = .ok (.invokespecial 9, 3) := by decide +kernel
theorem dX6_init_58 : decode cX6_init 58 = .ok (.aastore, 1) := by decide +kernel
theorem dX6_init_59 : decode cX6_init 59 = .ok (.iinc 1 1, 3) := by decide +kernel
theorem dX6_init_62 : decode cX6_init 62 = .ok (.goto (-25), 3) := by decide +kernel
theorem dX6_init_65 : decode cX6_init 65 = .ok (.aload_n 0, 1) := by decide +kernel
theorem dX6_init_66 : decode cX6_init 66 = .ok (.new 23, 3) := by decide +kernel
theorem dX6_init_69 : decode cX6_init 69 = .ok (.dup, 1) := by decide +kernel
theorem dX6_init_70 : decode cX6_init 70 = .ok (.invokespecial 25, 3) := by decide +kernel
theorem dX6_init_73 : decode cX6_init 73 = .ok (.putfield 26, 3) := by decide +kernel
theorem dX6_init_76 : decode cX6_init 76 = .ok (.return_, 1) := by decide +kernel
theorem dX6_stock_0 : decode cX6_stock 0 = .ok (.iload_n 1, 1) := by decide +kernel
theorem dX6_stock_1 : decode cX6_stock 1 = .ok (.iconst 0, 1) := by decide +kernel
theorem dX6_stock_2 : decode cX6_stock 2 = .ok (.iconst 3, 1) := by decide +kernel
theorem dX6_stock_3 : decode cX6_stock 3 = .ok (.invokestatic 30, 3) := by decide +kernel
theorem dX6_stock_6 : decode cX6_stock 6 = .ok (.ifCond .ne 13, 3) := by decide +kernel
theorem dX6_stock_9 : decode cX6_stock 9 = .ok (.new 34, 3) := by decide +kernel
theorem dX6_stock_12 : decode cX6_stock 12 = .ok (.dup, 1) := by decide +kernel
theorem dX6_stock_13 : decode cX6_stock 13 = .ok (.ldc 36, 2) := by decide +kernel
theorem dX6_stock_15 : decode cX6_stock 15 = .ok (.invokespecial 38, 3) := by decide +kernel
theorem dX6_stock_18 : decode cX6_stock 18 = .ok (.athrow, 1) := by decide +kernel
theorem dX6_stock_19 : decode cX6_stock 19 = .ok (.iload_n 2, 1) := by decide +kernel
theorem dX6_stock_20 : decode cX6_stock 20 = .ok (.iconst 1, 1) := by decide +kernel
theorem dX6_stock_21 : decode cX6_stock 21 = .ok (.bipush 99, 2) := by decide +kernel
theorem dX6_stock_23 : decode cX6_stock 23 = .ok (.invokestatic 30, 3) := by decide +kernel
theorem dX6_stock_26 : decode cX6_stock 26 = .ok (.ifCond .ne 13, 3) := by decide +kernel
theorem dX6_stock_29 : decode cX6_stock 29 = .ok (.new 41, 3) := by decide +kernel
theorem dX6_stock_32 : decode cX6_stock 32 = .ok (.dup, 1) := by decide +kernel
theorem dX6_stock_33 : decode cX6_stock 33 = .ok (.ldc 43, 2) := by decide +kernel
theorem dX6_stock_35 : decode cX6_stock 35 = .ok (.invokespecial 45, 3) := by decide +kernel
theorem dX6_stock_38 : decode cX6_stock 38 = .ok (.athrow, 1) := by decide +kernel
theorem dX6_stock_39 : decode cX6_stock 39 = .ok (.aload_n 0, 1) := by decide +kernel
theorem dX6_stock_40 : decode cX6_stock 40 = .ok (.getfield 10, 3) := by decide +kernel
theorem dX6_stock_43 : decode cX6_stock 43 = .ok (.iload_n 1, 1) := by decide +kernel
theorem dX6_stock_44 : decode cX6_stock 44 = .ok (.invokevirtual 46, 3) := by decide +kernel
theorem dX6_stock_47 : decode cX6_stock 47 = .ok (.astore_n 3, 1) := by decide +kernel
theorem dX6_stock_48 : decode cX6_stock 48 = .ok (.aload_n 3, 1) := by decide +kernel
theorem dX6_stock_49 : decode cX6_stock 49 = .ok (.getfield 50, 3) := by decide +kernel
theorem dX6_stock_52 : decode cX6_stock 52 = .ok (.iload_n 2, 1) := by decide +kernel
theorem dX6_stock_53 : decode cX6_stock 53 = .ok (.iadd, 1) := by decide +kernel
theorem dX6_stock_54 : decode cX6_stock 54 = .ok (.sipush 200, 3) := by decide +kernel
theorem dX6_stock_57 : decode cX6_stock 57 = .ok (.if_icmp .le 13, 3) := by decide +kernel
theorem dX6_stock_60 : decode cX6_stock 60 = .ok (.new 56, 3) := by decide +kernel
theorem dX6_stock_63 : decode cX6_stock 63 = .ok (.dup, 1) := by decide +kernel
theorem dX6_stock_64 : decode cX6_stock 64 = .ok (.ldc 58, 2) := by decide +kernel
theorem dX6_stock_66 : decode cX6_stock 66 = .ok (.invokespecial 60, 3) := by decide +kernel
theorem dX6_stock_69 : decode cX6_stock 69 = .ok (.athrow, 1) := by decide +kernel
theorem dX6_stock_70 : decode cX6_stock 70 = .ok (.aload_n 0, 1) := by decide +kernel
theorem dX6_stock_71 : decode cX6_stock 71 = .ok (.invokevirtual 61, 3) := by decide +kernel
theorem dX6_stock_74 : decode cX6_stock 74 = .ok (.aload_n 3, 1) := by decide +kernel
theorem dX6_stock_75 : decode cX6_stock 75 = .ok (.dup, 1) := by decide +kernel
theorem dX6_stock_76 : decode cX6_stock 76 = .ok (.getfield 50, 3) := by decide +kernel
theorem dX6_stock_79 : decode cX6_stock 79 = .ok (.iload_n 2, 1) := by decide +kernel
theorem dX6_stock_80 : decode cX6_stock 80 = .ok (.iadd, 1) := by decide +kernel
theorem dX6_stock_81 : decode cX6_stock 81 = .ok (.putfield 50, 3) := by decide +kernel
theorem dX6_stock_84 : decode cX6_stock 84 = .ok (.aload_n 3, 1) := by decide +kernel
theorem dX6_stock_85 : decode cX6_stock 85 = .ok (.getfield 50, 3) := by decide +kernel
theorem dX6_stock_88 : decode cX6_stock 88 = .ok (.ireturn, 1) := by decide +kernel
theorem dX6_range_0 : decode cX6_range 0 = .ok (.iload_n 1, 1) := by decide +kernel
theorem dX6_range_1 : decode cX6_range 1 = .ok (.iconst 0, 1) := by decide +kernel
theorem dX6_range_2 : decode cX6_range 2 = .ok (.iconst 3, 1) := by decide +kernel
theorem dX6_range_3 : decode cX6_range 3 = .ok (.invokestatic 30, 3) := by decide +kernel
theorem dX6_range_6 : decode cX6_range 6 = .ok (.ifCond .ne 13, 3) := by decide +kernel
theorem dX6_range_9 : decode cX6_range 9 = .ok (.new 34, 3) := by decide +kernel
theorem dX6_range_12 : decode cX6_range 12 = .ok (.dup, 1) := by decide +kernel
theorem dX6_range_13 : decode cX6_range 13 = .ok (.ldc 36, 2) := by decide +kernel
theorem dX6_range_15 : decode cX6_range 15 = .ok (.invokespecial 38, 3) := by decide +kernel
theorem dX6_range_18 : decode cX6_range 18 = .ok (.athrow, 1) := by decide +kernel
theorem dX6_range_19 : decode cX6_range 19 = .ok (.iload_n 2, 1) := by decide +kernel
theorem dX6_range_20 : decode cX6_range 20 = .ok (.sipush 600, 3) := by decide +kernel
theorem dX6_range_23 : decode cX6_range 23 = .ok (.sipush 1240, 3) := by decide +kernel
theorem dX6_range_26 : decode cX6_range 26 = .ok (.invokestatic 30, 3) := by decide +kernel
theorem dX6_range_29 : decode cX6_range 29 = .ok (.ifCond .eq 14, 3) := by decide +kernel
theorem dX6_range_32 : decode cX6_range 32 = .ok (.iload_n 3, 1) := by decide +kernel
theorem dX6_range_33 : decode cX6_range 33 = .ok (.iload_n 2, 1) := by decide +kernel
theorem dX6_range_34 : decode cX6_range 34 = .ok (.sipush 1240, 3) := by decide +kernel
theorem dX6_range_37 : decode cX6_range 37 = .ok (.invokestatic 30, 3) := by decide +kernel
theorem dX6_range_40 : decode cX6_range 40 = .ok (.ifCond .ne 13, 3) := by decide +kernel
theorem dX6_range_43 : decode cX6_range 43 = .ok (.new 41, 3) := by decide +kernel
theorem dX6_range_46 : decode cX6_range 46 = .ok (.dup, 1) := by decide +kernel
theorem dX6_range_47 : decode cX6_range 47 = .ok (.ldc 64, 2) := by decide +kernel
theorem dX6_range_49 : decode cX6_range 49 = .ok (.invokespecial 45, 3) := by decide +kernel
theorem dX6_range_52 : decode cX6_range 52 = .ok (.athrow, 1) := by decide +kernel
theorem dX6_range_53 : decode cX6_range 53 = .ok (.aload_n 0, 1) := by decide +kernel
theorem dX6_range_54 : decode cX6_range 54 = .ok (.invokevirtual 61, 3) := by decide +kernel
theorem dX6_range_57 : decode cX6_range 57 = .ok (.aload_n 0, 1) := by decide +kernel
theorem dX6_range_58 : decode cX6_range 58 = .ok (.getfield 10, 3) := by decide +kernel
theorem dX6_range_61 : decode cX6_range 61 = .ok (.iload_n 1, 1) := by decide +kernel
theorem dX6_range_62 : decode cX6_range 62 = .ok (.invokevirtual 46, 3) := by decide +kernel
theorem dX6_range_65 : decode cX6_range 65 = .ok (.astore 4, 2) := by decide +kernel
theorem dX6_range_67 : decode cX6_range 67 = .ok (.sipush 10000, 3) := by decide +kernel
theorem dX6_range_70 : decode cX6_range 70 = .ok (.aload 4, 2) := by decide +kernel
theorem dX6_range_72 : decode cX6_range 72 = .ok (.getfield 66, 3) := by decide +kernel
theorem dX6_range_75 : decode cX6_range 75 = .ok (.imul, 1) := by decide +kernel
theorem dX6_range_76 : decode cX6_range 76 = .ok (.aload 4, 2) := by decide +kernel
theorem dX6_range_78 : decode cX6_range 78 = .ok (.getfield 69, 3) := by decide +kernel
theorem dX6_range_81 : decode cX6_range 81 = .ok (.iadd, 1) := by decide +kernel
theorem dX6_range_82 : decode cX6_range 82 = .ok (.istore 5, 2) := by decide +kernel
theorem dX6_range_84 : decode cX6_range 84 = .ok (.aload 4, 2) := by decide +kernel
theorem dX6_range_86 : decode cX6_range 86 = .ok (.iload_n 2, 1) := by decide +kernel
theorem dX6_range_87 : decode cX6_range 87 = .ok (.putfield 66, 3) := by decide +kernel
theorem dX6_range_90 : decode cX6_range 90 = .ok (.aload 4, 2) := by decide +kernel
theorem dX6_range_92 : decode cX6_range 92 = .ok (.iload_n 3, 1) := by decide +kernel
theorem dX6_range_93 : decode cX6_range 93 = .ok (.putfield 69, 3) := by decide +kernel
theorem dX6_range_96 : decode cX6_range 96 = .ok (.iload 5, 2) := by decide +kernel
theorem dX6_range_98 : decode cX6_range 98 = .ok (.ireturn, 1) := by decide +kernel
theorem dX6_die_0 : decode cX6_die 0 = .ok (.iload_n 1, 1) := by decide +kernel
theorem dX6_die_1 : decode cX6_die 1 = .ok (.iconst 0, 1) := by decide +kernel
theorem dX6_die_2 : decode cX6_die 2 = .ok (.iconst 4, 1) := by decide +kernel
theorem dX6_die_3 : decode cX6_die 3 = .ok (.invokestatic 30, 3) := by decide +kernel
theorem dX6_die_6 : decode cX6_die 6 = .ok (.ifCond .ne 13, 3) := by decide +kernel
theorem dX6_die_9 : decode cX6_die 9 = .ok (.new 34, 3) := by decide +kernel
theorem dX6_die_12 : decode cX6_die 12 = .ok (.dup, 1) := by decide +kernel
theorem dX6_die_13 : decode cX6_die 13 = .ok (.ldc 72, 2) := by decide +kernel
theorem dX6_die_15 : decode cX6_die 15 = .ok (.invokespecial 38, 3) := by decide +kernel
theorem dX6_die_18 : decode cX6_die 18 = .ok (.athrow, 1) := by decide +kernel
theorem dX6_die_19 : decode cX6_die 19 = .ok (.iload_n 2, 1) := by decide +kernel
theorem dX6_die_20 : decode cX6_die 20 = .ok (.iconst 1, 1) := by decide +kernel
theorem dX6_die_21 : decode cX6_die 21 = .ok (.bipush 9, 2) := by decide +kernel
theorem dX6_die_23 : decode cX6_die 23 = .ok (.invokestatic 30, 3) := by decide +kernel
theorem dX6_die_26 : decode cX6_die 26 = .ok (.ifCond .eq 15, 3) := by decide +kernel
theorem dX6_die_29 : decode cX6_die 29 = .ok (.iload_n 3, 1) := by decide +kernel
theorem dX6_die_30 : decode cX6_die 30 = .ok (.bipush 10, 2) := by decide +kernel
theorem dX6_die_32 : decode cX6_die 32 = .ok (.sipush 300, 3) := by decide +kernel
theorem dX6_die_35 : decode cX6_die 35 = .ok (.invokestatic 30, 3) := by decide +kernel
theorem dX6_die_38 : decode cX6_die 38 = .ok (.ifCond .ne 13, 3) := by decide +kernel
theorem dX6_die_41 : decode cX6_die 41 = .ok (.new 41, 3) := by decide +kernel
theorem dX6_die_44 : decode cX6_die 44 = .ok (.dup, 1) := by decide +kernel
theorem dX6_die_45 : decode cX6_die 45 = .ok (.ldc 74, 2) := by decide +kernel
theorem dX6_die_47 : decode cX6_die 47 = .ok (.invokespecial 45, 3) := by decide +kernel
theorem dX6_die_50 : decode cX6_die 50 = .ok (.athrow, 1) := by decide +kernel
theorem dX6_die_51 : decode cX6_die 51 = .ok (.aload_n 0, 1) := by decide +kernel
theorem dX6_die_52 : decode cX6_die 52 = .ok (.getfield 10, 3) := by decide +kernel
theorem dX6_die_55 : decode cX6_die 55 = .ok (.iload_n 1, 1) := by decide +kernel
theorem dX6_die_56 : decode cX6_die 56 = .ok (.invokevirtual 76, 3) := by decide +kernel
theorem dX6_die_59 : decode cX6_die 59 = .ok (.astore 4, 2) := by decide +kernel
theorem dX6_die_61 : decode cX6_die 61 = .ok (.aload 4, 2) := by decide +kernel
theorem dX6_die_63 : decode cX6_die 63 = .ok (.invokevirtual 80, 3) := by decide +kernel
theorem dX6_die_66 : decode cX6_die 66 = .ok (.ifCond .eq 13, 3) := by decide +kernel
theorem dX6_die_69 : decode cX6_die 69 = .ok (.new 56, 3) := by decide +kernel
theorem dX6_die_72 : decode cX6_die 72 = .ok (.dup, 1) := by decide +kernel
theorem dX6_die_73 : decode cX6_die 73 = .ok (.ldc 86, 2) := by decide +kernel
theorem dX6_die_75 : decode cX6_die 75 = .ok (.invokespecial 60, 3) := by decide +kernel
theorem dX6_die_78 : decode cX6_die 78 = .ok (.athrow, 1) := by decide +kernel
theorem dX6_die_79 : decode cX6_die 79 = .ok (.aload_n 0, 1) := by decide +kernel
theorem dX6_die_80 : decode cX6_die 80 = .ok (.invokevirtual 61, 3) := by decide +kernel
theorem dX6_die_83 : decode cX6_die 83 = .ok (.aload 4, 2) := by decide +kernel
theorem dX6_die_85 : decode cX6_die 85 = .ok (.getfield 88, 3) := by decide +kernel
theorem dX6_die_88 : decode cX6_die 88 = .ok (.istore 5, 2) := by decide +kernel
theorem dX6_die_90 : decode cX6_die 90 = .ok (.aload 4, 2) := by decide +kernel
theorem dX6_die_92 : decode cX6_die 92 = .ok (.iload_n 2, 1) := by decide +kernel
theorem dX6_die_93 : decode cX6_die 93 = .ok (.putfield 91, 3) := by decide +kernel
theorem dX6_die_96 : decode cX6_die 96 = .ok (.aload 4, 2) := by decide +kernel
theorem dX6_die_98 : decode cX6_die 98 = .ok (.iload_n 3, 1) := by decide +kernel
theorem dX6_die_99 : decode cX6_die 99 = .ok (.putfield 94, 3) := by decide +kernel
theorem dX6_die_102 : decode cX6_die 102 = .ok (.aload 4, 2) := by decide +kernel
theorem dX6_die_104 : decode cX6_die 104 = .ok (.iconst 0, 1) := by decide +kernel
theorem dX6_die_105 : decode cX6_die 105 = .ok (.putfield 88, 3) := by decide +kernel
theorem dX6_die_108 : decode cX6_die 108 = .ok (.iload 5, 2) := by decide +kernel
theorem dX6_die_110 : decode cX6_die 110 = .ok (.ireturn, 1) := by decide +kernel
theorem dX6_grind_0 : decode cX6_grind 0 = .ok (.iload_n 1, 1) := by decide +kernel
theorem dX6_grind_1 : decode cX6_grind 1 = .ok (.iconst 0, 1) := by decide +kernel
theorem dX6_grind_2 : decode cX6_grind 2 = .ok (.iconst 4, 1) := by decide +kernel
theorem dX6_grind_3 : decode cX6_grind 3 = .ok (.invokestatic 30, 3) := by decide +kernel
theorem dX6_grind_6 : decode cX6_grind 6 = .ok (.ifCond .ne 13, 3) := by decide +kernel
theorem dX6_grind_9 : decode cX6_grind 9 = .ok (.new 34, 3) := by decide +kernel
theorem dX6_grind_12 : decode cX6_grind 12 = .ok (.dup, 1) := by decide +kernel
theorem dX6_grind_13 : decode cX6_grind 13 = .ok (.ldc 72, 2) := by decide +kernel
theorem dX6_grind_15 : decode cX6_grind 15 = .ok (.invokespecial 38, 3) := by decide +kernel
theorem dX6_grind_18 : decode cX6_grind 18 = .ok (.athrow, 1) := by decide +kernel
theorem dX6_grind_19 : decode cX6_grind 19 = .ok (.aload_n 0, 1) := by decide +kernel
theorem dX6_grind_20 : decode cX6_grind 20 = .ok (.getfield 10, 3) := by decide +kernel
theorem dX6_grind_23 : decode cX6_grind 23 = .ok (.invokevirtual 97, 3) := by decide +kernel
theorem dX6_grind_26 : decode cX6_grind 26 = .ok (.iconst (-1), 1) := by decide +kernel
theorem dX6_grind_27 : decode cX6_grind 27 = .ok (.if_icmp .eq 13, 3) := by decide +kernel
theorem dX6_grind_30 : decode cX6_grind 30 = .ok (.new 56, 3) := by decide +kernel
theorem dX6_grind_33 : decode cX6_grind 33 = .ok (.dup, 1) := by decide +kernel
theorem dX6_grind_34 : decode cX6_grind 34 = .ok (.ldc 101, 2) := by decide +kernel
theorem dX6_grind_36 : decode cX6_grind 36 = .ok (.invokespecial 60, 3) := by decide +kernel
theorem dX6_grind_39 : decode cX6_grind 39 = .ok (.athrow, 1) := by decide +kernel
theorem dX6_grind_40 : decode cX6_grind 40 = .ok (.aload_n 0, 1) := by decide +kernel
theorem dX6_grind_41 : decode cX6_grind 41 = .ok (.invokevirtual 61, 3) := by decide +kernel
theorem dX6_grind_44 : decode cX6_grind 44 = .ok (.aload_n 0, 1) := by decide +kernel
theorem dX6_grind_45 : decode cX6_grind 45 = .ok (.getfield 10, 3) := by decide +kernel
theorem dX6_grind_48 : decode cX6_grind 48 = .ok (.iload_n 1, 1) := by decide +kernel
theorem dX6_grind_49 : decode cX6_grind 49 = .ok (.invokevirtual 76, 3) := by decide +kernel
theorem dX6_grind_52 : decode cX6_grind 52 = .ok (.astore_n 2, 1) := by decide +kernel
theorem dX6_grind_53 : decode cX6_grind 53 = .ok (.aload_n 2, 1) := by decide +kernel
theorem dX6_grind_54 : decode cX6_grind 54 = .ok (.aload_n 0, 1) := by decide +kernel
theorem dX6_grind_55 : decode cX6_grind 55 = .ok (.getfield 10, 3) := by decide +kernel
theorem dX6_grind_58 : decode cX6_grind 58 = .ok (.getfield 103, 3) := by decide +kernel
theorem dX6_grind_61 : decode cX6_grind 61 = .ok (.putfield 106, 3) := by decide +kernel
theorem dX6_grind_64 : decode cX6_grind 64 = .ok (.aload_n 2, 1) := by decide +kernel
theorem dX6_grind_65 : decode cX6_grind 65 = .ok (.getfield 88, 3) := by decide +kernel
theorem dX6_grind_68 : decode cX6_grind 68 = .ok (.ireturn, 1) := by decide +kernel
theorem dX6_job_0 : decode cX6_job 0 = .ok (.iload_n 1, 1) := by decide +kernel
theorem dX6_job_1 : decode cX6_job 1 = .ok (.iconst 0, 1) := by decide +kernel
theorem dX6_job_2 : decode cX6_job 2 = .ok (.iconst 4, 1) := by decide +kernel
theorem dX6_job_3 : decode cX6_job 3 = .ok (.invokestatic 30, 3) := by decide +kernel
theorem dX6_job_6 : decode cX6_job 6 = .ok (.ifCond .eq 12, 3) := by decide +kernel
theorem dX6_job_9 : decode cX6_job 9 = .ok (.iload_n 2, 1) := by decide +kernel
theorem dX6_job_10 : decode cX6_job 10 = .ok (.iconst 0, 1) := by decide +kernel
theorem dX6_job_11 : decode cX6_job 11 = .ok (.iconst 3, 1) := by decide +kernel
theorem dX6_job_12 : decode cX6_job 12 = .ok (.invokestatic 30, 3) := by decide +kernel
theorem dX6_job_15 : decode cX6_job 15 = .ok (.ifCond .ne 13, 3) := by decide +kernel
theorem dX6_job_18 : decode cX6_job 18 = .ok (.new 34, 3) := by decide +kernel
theorem dX6_job_21 : decode cX6_job 21 = .ok (.dup, 1) := by decide +kernel
theorem dX6_job_22 : decode cX6_job 22 = .ok (.ldc 109, 2) := by decide +kernel
theorem dX6_job_24 : decode cX6_job 24 = .ok (.invokespecial 38, 3) := by decide +kernel
theorem dX6_job_27 : decode cX6_job 27 = .ok (.athrow, 1) := by decide +kernel
theorem dX6_job_28 : decode cX6_job 28 = .ok (.iload_n 3, 1) := by decide +kernel
theorem dX6_job_29 : decode cX6_job 29 = .ok (.iconst 1, 1) := by decide +kernel
theorem dX6_job_30 : decode cX6_job 30 = .ok (.bipush 40, 2) := by decide +kernel
theorem dX6_job_32 : decode cX6_job 32 = .ok (.invokestatic 30, 3) := by decide +kernel
theorem dX6_job_35 : decode cX6_job 35 = .ok (.ifCond .eq 15, 3) := by decide +kernel
theorem dX6_job_38 : decode cX6_job 38 = .ok (.iload 4, 2) := by decide +kernel
theorem dX6_job_40 : decode cX6_job 40 = .ok (.iconst 0, 1) := by decide +kernel
theorem dX6_job_41 : decode cX6_job 41 = .ok (.sipush 9999, 3) := by decide +kernel
theorem dX6_job_44 : decode cX6_job 44 = .ok (.invokestatic 30, 3) := by decide +kernel
theorem dX6_job_47 : decode cX6_job 47 = .ok (.ifCond .ne 13, 3) := by decide +kernel
theorem dX6_job_50 : decode cX6_job 50 = .ok (.new 41, 3) := by decide +kernel
theorem dX6_job_53 : decode cX6_job 53 = .ok (.dup, 1) := by decide +kernel
theorem dX6_job_54 : decode cX6_job 54 = .ok (.ldc 111, 2) := by decide +kernel
theorem dX6_job_56 : decode cX6_job 56 = .ok (.invokespecial 45, 3) := by decide +kernel
theorem dX6_job_59 : decode cX6_job 59 = .ok (.athrow, 1) := by decide +kernel
theorem dX6_job_60 : decode cX6_job 60 = .ok (.aload_n 0, 1) := by decide +kernel
theorem dX6_job_61 : decode cX6_job 61 = .ok (.getfield 10, 3) := by decide +kernel
theorem dX6_job_64 : decode cX6_job 64 = .ok (.getfield 113, 3) := by decide +kernel
theorem dX6_job_67 : decode cX6_job 67 = .ok (.bipush 10, 2) := by decide +kernel
theorem dX6_job_69 : decode cX6_job 69 = .ok (.if_icmp .lt 13, 3) := by decide +kernel
theorem dX6_job_72 : decode cX6_job 72 = .ok (.new 56, 3) := by decide +kernel
theorem dX6_job_75 : decode cX6_job 75 = .ok (.dup, 1) := by decide +kernel
theorem dX6_job_76 : decode cX6_job 76 = .ok (.ldc 116, 2) := by decide +kernel
theorem dX6_job_78 : decode cX6_job 78 = .ok (.invokespecial 60, 3) := by decide +kernel
theorem dX6_job_81 : decode cX6_job 81 = .ok (.athrow, 1) := by decide +kernel
theorem dX6_job_82 : decode cX6_job 82 = .ok (.aload_n 0, 1) := by decide +kernel
theorem dX6_job_83 : decode cX6_job 83 = .ok (.invokevirtual 61, 3) := by decide +kernel
theorem dX6_job_86 : decode cX6_job 86 = .ok (.aload_n 0, 1) := by decide +kernel
theorem dX6_job_87 : decode cX6_job 87 = .ok (.getfield 10, 3) := by decide +kernel
theorem dX6_job_90 : decode cX6_job 90 = .ok (.iload_n 1, 1) := by decide +kernel
theorem dX6_job_91 : decode cX6_job 91 = .ok (.iload_n 2, 1) := by decide +kernel
theorem dX6_job_92 : decode cX6_job 92 = .ok (.iload_n 3, 1) := by decide +kernel
theorem dX6_job_93 : decode cX6_job 93 = .ok (.iload 4, 2) := by decide +kernel
theorem dX6_job_95 : decode cX6_job 95 = .ok (.iload 5, 2) := by decide +kernel
theorem dX6_job_97 : decode cX6_job 97 = .ok (.invokevirtual 118, 3) := by decide +kernel
theorem dX6_job_100 : decode cX6_job 100 = .ok (.ireturn, 1) := by decide +kernel
theorem dX6_cancel_0 : decode cX6_cancel 0 = .ok (.aload_n 0, 1) := by decide +kernel
theorem dX6_cancel_1 : decode cX6_cancel 1 = .ok (.getfield 10, 3) := by decide +kernel
theorem dX6_cancel_4 : decode cX6_cancel 4 = .ok (.iload_n 1, 1) := by decide +kernel
theorem dX6_cancel_5 : decode cX6_cancel 5 = .ok (.invokevirtual 122, 3) := by decide +kernel
theorem dX6_cancel_8 : decode cX6_cancel 8 = .ok (.istore_n 2, 1) := by decide +kernel
theorem dX6_cancel_9 : decode cX6_cancel 9 = .ok (.iload_n 2, 1) := by decide +kernel
theorem dX6_cancel_10 : decode cX6_cancel 10 = .ok (.iconst (-1), 1) := by decide +kernel
theorem dX6_cancel_11 : decode cX6_cancel 11 = .ok (.if_icmp .ne 13, 3) := by decide +kernel
theorem dX6_cancel_14 : decode cX6_cancel 14 = .ok (.new 34, 3) := by decide +kernel
theorem dX6_cancel_17 : decode cX6_cancel 17 = .ok (.dup, 1) := by decide +kernel
theorem dX6_cancel_18 : decode cX6_cancel 18 = .ok (.ldc 126, 2) := by decide +kernel
theorem dX6_cancel_20 : decode cX6_cancel 20 = .ok (.invokespecial 38, 3) := by decide +kernel
theorem dX6_cancel_23 : decode cX6_cancel 23 = .ok (.athrow, 1) := by decide +kernel
theorem dX6_cancel_24 : decode cX6_cancel 24 = .ok (.aload_n 0, 1) := by decide +kernel
theorem dX6_cancel_25 : decode cX6_cancel 25 = .ok (.invokevirtual 61, 3) := by decide +kernel
theorem dX6_cancel_28 : decode cX6_cancel 28 = .ok (.aload_n 0, 1) := by decide +kernel
theorem dX6_cancel_29 : decode cX6_cancel 29 = .ok (.getfield 10, 3) := by decide +kernel
theorem dX6_cancel_32 : decode cX6_cancel 32 = .ok (.iload_n 2, 1) := by decide +kernel
theorem dX6_cancel_33 : decode cX6_cancel 33 = .ok (.invokevirtual 128, 3) := by decide +kernel
theorem dX6_cancel_36 : decode cX6_cancel 36 = .ok (.ireturn, 1) := by decide +kernel
theorem dX6_rush_0 : decode cX6_rush 0 = .ok (.aload_n 0, 1) := by decide +kernel
theorem dX6_rush_1 : decode cX6_rush 1 = .ok (.getfield 10, 3) := by decide +kernel
theorem dX6_rush_4 : decode cX6_rush 4 = .ok (.iload_n 1, 1) := by decide +kernel
theorem dX6_rush_5 : decode cX6_rush 5 = .ok (.invokevirtual 122, 3) := by decide +kernel
theorem dX6_rush_8 : decode cX6_rush 8 = .ok (.istore_n 3, 1) := by decide +kernel
theorem dX6_rush_9 : decode cX6_rush 9 = .ok (.iload_n 3, 1) := by decide +kernel
theorem dX6_rush_10 : decode cX6_rush 10 = .ok (.iconst (-1), 1) := by decide +kernel
theorem dX6_rush_11 : decode cX6_rush 11 = .ok (.if_icmp .ne 13, 3) := by decide +kernel
theorem dX6_rush_14 : decode cX6_rush 14 = .ok (.new 34, 3) := by decide +kernel
theorem dX6_rush_17 : decode cX6_rush 17 = .ok (.dup, 1) := by decide +kernel
theorem dX6_rush_18 : decode cX6_rush 18 = .ok (.ldc 126, 2) := by decide +kernel
theorem dX6_rush_20 : decode cX6_rush 20 = .ok (.invokespecial 38, 3) := by decide +kernel
theorem dX6_rush_23 : decode cX6_rush 23 = .ok (.athrow, 1) := by decide +kernel
theorem dX6_rush_24 : decode cX6_rush 24 = .ok (.aload_n 0, 1) := by decide +kernel
theorem dX6_rush_25 : decode cX6_rush 25 = .ok (.invokevirtual 61, 3) := by decide +kernel
theorem dX6_rush_28 : decode cX6_rush 28 = .ok (.aload_n 0, 1) := by decide +kernel
theorem dX6_rush_29 : decode cX6_rush 29 = .ok (.getfield 10, 3) := by decide +kernel
theorem dX6_rush_32 : decode cX6_rush 32 = .ok (.iload_n 3, 1) := by decide +kernel
theorem dX6_rush_33 : decode cX6_rush 33 = .ok (.iload_n 2, 1) := by decide +kernel
theorem dX6_rush_34 : decode cX6_rush 34 = .ok (.invokevirtual 131, 3) := by decide +kernel
theorem dX6_rush_37 : decode cX6_rush 37 = .ok (.ireturn, 1) := by decide +kernel
theorem dX6_set_0 : decode cX6_set 0 = .ok (.iload_n 1, 1) := by decide +kernel
theorem dX6_set_1 : decode cX6_set 1 = .ok (.iconst 0, 1) := by decide +kernel
theorem dX6_set_2 : decode cX6_set 2 = .ok (.iconst 3, 1) := by decide +kernel
theorem dX6_set_3 : decode cX6_set 3 = .ok (.invokestatic 30, 3) := by decide +kernel
theorem dX6_set_6 : decode cX6_set 6 = .ok (.ifCond .ne 13, 3) := by decide +kernel
theorem dX6_set_9 : decode cX6_set 9 = .ok (.new 34, 3) := by decide +kernel
theorem dX6_set_12 : decode cX6_set 12 = .ok (.dup, 1) := by decide +kernel
theorem dX6_set_13 : decode cX6_set 13 = .ok (.ldc 135, 2) := by decide +kernel
theorem dX6_set_15 : decode cX6_set 15 = .ok (.invokespecial 38, 3) := by decide +kernel
theorem dX6_set_18 : decode cX6_set 18 = .ok (.athrow, 1) := by decide +kernel
theorem dX6_set_19 : decode cX6_set 19 = .ok (.iload_n 2, 1) := by decide +kernel
theorem dX6_set_20 : decode cX6_set 20 = .ok (.iload_n 1, 1) := by decide +kernel
theorem dX6_set_21 : decode cX6_set 21 = .ok (.invokestatic 137, 3) := by decide +kernel
theorem dX6_set_24 : decode cX6_set 24 = .ok (.iload_n 1, 1) := by decide +kernel
theorem dX6_set_25 : decode cX6_set 25 = .ok (.invokestatic 140, 3) := by decide +kernel
theorem dX6_set_28 : decode cX6_set 28 = .ok (.invokestatic 30, 3) := by decide +kernel
theorem dX6_set_31 : decode cX6_set 31 = .ok (.ifCond .ne 13, 3) := by decide +kernel
theorem dX6_set_34 : decode cX6_set 34 = .ok (.new 41, 3) := by decide +kernel
theorem dX6_set_37 : decode cX6_set 37 = .ok (.dup, 1) := by decide +kernel
theorem dX6_set_38 : decode cX6_set 38 = .ok (.ldc 143, 2) := by decide +kernel
theorem dX6_set_40 : decode cX6_set 40 = .ok (.invokespecial 45, 3) := by decide +kernel
theorem dX6_set_43 : decode cX6_set 43 = .ok (.athrow, 1) := by decide +kernel
theorem dX6_set_44 : decode cX6_set 44 = .ok (.aload_n 0, 1) := by decide +kernel
theorem dX6_set_45 : decode cX6_set 45 = .ok (.invokevirtual 61, 3) := by decide +kernel
theorem dX6_set_48 : decode cX6_set 48 = .ok (.aload_n 0, 1) := by decide +kernel
theorem dX6_set_49 : decode cX6_set 49 = .ok (.getfield 10, 3) := by decide +kernel
theorem dX6_set_52 : decode cX6_set 52 = .ok (.iload_n 1, 1) := by decide +kernel
theorem dX6_set_53 : decode cX6_set 53 = .ok (.invokevirtual 145, 3) := by decide +kernel
theorem dX6_set_56 : decode cX6_set 56 = .ok (.istore_n 3, 1) := by decide +kernel
theorem dX6_set_57 : decode cX6_set 57 = .ok (.aload_n 0, 1) := by decide +kernel
theorem dX6_set_58 : decode cX6_set 58 = .ok (.getfield 10, 3) := by decide +kernel
theorem dX6_set_61 : decode cX6_set 61 = .ok (.iload_n 1, 1) := by decide +kernel
theorem dX6_set_62 : decode cX6_set 62 = .ok (.iload_n 2, 1) := by decide +kernel
theorem dX6_set_63 : decode cX6_set 63 = .ok (.invokevirtual 148, 3) := by decide +kernel
theorem dX6_set_66 : decode cX6_set 66 = .ok (.iload_n 3, 1) := by decide +kernel
theorem dX6_set_67 : decode cX6_set 67 = .ok (.ireturn, 1) := by decide +kernel
theorem dX6_pass_0 : decode cX6_pass 0 = .ok (.iload_n 1, 1) := by decide +kernel
theorem dX6_pass_1 : decode cX6_pass 1 = .ok (.iconst 1, 1) := by decide +kernel
theorem dX6_pass_2 : decode cX6_pass 2 = .ok (.bipush 120, 2) := by decide +kernel
theorem dX6_pass_4 : decode cX6_pass 4 = .ok (.invokestatic 30, 3) := by decide +kernel
theorem dX6_pass_7 : decode cX6_pass 7 = .ok (.ifCond .ne 13, 3) := by decide +kernel
theorem dX6_pass_10 : decode cX6_pass 10 = .ok (.new 41, 3) := by decide +kernel
theorem dX6_pass_13 : decode cX6_pass 13 = .ok (.dup, 1) := by decide +kernel
theorem dX6_pass_14 : decode cX6_pass 14 = .ok (.ldc 152, 2) := by decide +kernel
theorem dX6_pass_16 : decode cX6_pass 16 = .ok (.invokespecial 45, 3) := by decide +kernel
theorem dX6_pass_19 : decode cX6_pass 19 = .ok (.athrow, 1) := by decide +kernel
theorem dX6_pass_20 : decode cX6_pass 20 = .ok (.aload_n 0, 1) := by decide +kernel
theorem dX6_pass_21 : decode cX6_pass 21 = .ok (.getfield 10, 3) := by decide +kernel
theorem dX6_pass_24 : decode cX6_pass 24 = .ok (.getfield 154, 3) := by decide +kernel
theorem dX6_pass_27 : decode cX6_pass 27 = .ok (.iload_n 1, 1) := by decide +kernel
theorem dX6_pass_28 : decode cX6_pass 28 = .ok (.iadd, 1) := by decide +kernel
theorem dX6_pass_29 : decode cX6_pass 29 = .ok (.sipush 9999, 3) := by decide +kernel
theorem dX6_pass_32 : decode cX6_pass 32 = .ok (.if_icmp .le 13, 3) := by decide +kernel
theorem dX6_pass_35 : decode cX6_pass 35 = .ok (.new 56, 3) := by decide +kernel
theorem dX6_pass_38 : decode cX6_pass 38 = .ok (.dup, 1) := by decide +kernel
theorem dX6_pass_39 : decode cX6_pass 39 = .ok (.ldc 157, 2) := by decide +kernel
theorem dX6_pass_41 : decode cX6_pass 41 = .ok (.invokespecial 60, 3) := by decide +kernel
theorem dX6_pass_44 : decode cX6_pass 44 = .ok (.athrow, 1) := by decide +kernel
theorem dX6_pass_45 : decode cX6_pass 45 = .ok (.aload_n 0, 1) := by decide +kernel
theorem dX6_pass_46 : decode cX6_pass 46 = .ok (.invokevirtual 61, 3) := by decide +kernel
theorem dX6_pass_49 : decode cX6_pass 49 = .ok (.aload_n 0, 1) := by decide +kernel
theorem dX6_pass_50 : decode cX6_pass 50 = .ok (.getfield 10, 3) := by decide +kernel
theorem dX6_pass_53 : decode cX6_pass 53 = .ok (.invokevirtual 159, 3) := by decide +kernel
theorem dX6_pass_56 : decode cX6_pass 56 = .ok (.istore_n 2, 1) := by decide +kernel
theorem dX6_pass_57 : decode cX6_pass 57 = .ok (.aload_n 0, 1) := by decide +kernel
theorem dX6_pass_58 : decode cX6_pass 58 = .ok (.getfield 10, 3) := by decide +kernel
theorem dX6_pass_61 : decode cX6_pass 61 = .ok (.iload_n 1, 1) := by decide +kernel
theorem dX6_pass_62 : decode cX6_pass 62 = .ok (.invokevirtual 162, 3) := by decide +kernel
theorem dX6_pass_65 : decode cX6_pass 65 = .ok (.aload_n 0, 1) := by decide +kernel
theorem dX6_pass_66 : decode cX6_pass 66 = .ok (.getfield 10, 3) := by decide +kernel
theorem dX6_pass_69 : decode cX6_pass 69 = .ok (.invokevirtual 159, 3) := by decide +kernel
theorem dX6_pass_72 : decode cX6_pass 72 = .ok (.iload_n 2, 1) := by decide +kernel
theorem dX6_pass_73 : decode cX6_pass 73 = .ok (.isub, 1) := by decide +kernel
theorem dX6_pass_74 : decode cX6_pass 74 = .ok (.ireturn, 1) := by decide +kernel
theorem dX6_append_0 : decode cX6_append 0 = .ok (.iload_n 1, 1) := by decide +kernel
theorem dX6_append_1 : decode cX6_append 1 = .ok (.bipush 33, 2) := by decide +kernel
theorem dX6_append_3 : decode cX6_append 3 = .ok (.bipush 126, 2) := by decide +kernel
theorem dX6_append_5 : decode cX6_append 5 = .ok (.invokestatic 30, 3) := by decide +kernel
theorem dX6_append_8 : decode cX6_append 8 = .ok (.ifCond .ne 13, 3) := by decide +kernel
theorem dX6_append_11 : decode cX6_append 11 = .ok (.new 41, 3) := by decide +kernel
theorem dX6_append_14 : decode cX6_append 14 = .ok (.dup, 1) := by decide +kernel
theorem dX6_append_15 : decode cX6_append 15 = .ok (.ldc 166, 2) := by decide +kernel
theorem dX6_append_17 : decode cX6_append 17 = .ok (.invokespecial 45, 3) := by decide +kernel
theorem dX6_append_20 : decode cX6_append 20 = .ok (.athrow, 1) := by decide +kernel
theorem dX6_append_21 : decode cX6_append 21 = .ok (.aload_n 0, 1) := by decide +kernel
theorem dX6_append_22 : decode cX6_append 22 = .ok (.getfield 26, 3) := by decide +kernel
theorem dX6_append_25 : decode cX6_append 25 = .ok (.invokevirtual 168, 3) := by decide +kernel
theorem dX6_append_28 : decode cX6_append 28 = .ok (.ifCond .eq 13, 3) := by decide +kernel
theorem dX6_append_31 : decode cX6_append 31 = .ok (.new 56, 3) := by decide +kernel
theorem dX6_append_34 : decode cX6_append 34 = .ok (.dup, 1) := by decide +kernel
theorem dX6_append_35 : decode cX6_append 35 = .ok (.ldc 171, 2) := by decide +kernel
theorem dX6_append_37 : decode cX6_append 37 = .ok (.invokespecial 60, 3) := by decide +kernel
theorem dX6_append_40 : decode cX6_append 40 = .ok (.athrow, 1) := by decide +kernel
theorem dX6_append_41 : decode cX6_append 41 = .ok (.aload_n 0, 1) := by decide +kernel
theorem dX6_append_42 : decode cX6_append 42 = .ok (.getfield 26, 3) := by decide +kernel
theorem dX6_append_45 : decode cX6_append 45 = .ok (.iload_n 1, 1) := by decide +kernel
theorem dX6_append_46 : decode cX6_append 46 = .ok (.invokevirtual 173, 3) := by decide +kernel
theorem dX6_append_49 : decode cX6_append 49 = .ok (.ireturn, 1) := by decide +kernel
theorem dX6_clearBuffer_0 : decode cX6_clearBuffer 0 = .ok (.aload_n 0, 1) := by decide +kernel
theorem dX6_clearBuffer_1 : decode cX6_clearBuffer 1 = .ok (.getfield 26, 3) := by decide +kernel
theorem dX6_clearBuffer_4 : decode cX6_clearBuffer 4 = .ok (.invokevirtual 176, 3) := by decide +kernel
theorem dX6_clearBuffer_7 : decode cX6_clearBuffer 7 = .ok (.ireturn, 1) := by decide +kernel
theorem dX6_firstError_0 : decode cX6_firstError 0 = .ok (.aload_n 0, 1) := by decide +kernel
theorem dX6_firstError_1 : decode cX6_firstError 1 = .ok (.getfield 26, 3) := by decide +kernel
theorem dX6_firstError_4 : decode cX6_firstError 4 = .ok (.invokevirtual 179, 3) := by decide +kernel
theorem dX6_firstError_7 : decode cX6_firstError 7 = .ok (.ireturn, 1) := by decide +kernel
theorem dX6_addAll_0 : decode cX6_addAll 0 = .ok (.aload_n 0, 1) := by decide +kernel
theorem dX6_addAll_1 : decode cX6_addAll 1 = .ok (.getfield 26, 3) := by decide +kernel
theorem dX6_addAll_4 : decode cX6_addAll 4 = .ok (.invokevirtual 182, 3) := by decide +kernel
theorem dX6_addAll_7 : decode cX6_addAll 7 = .ok (.ifCond .ne 13, 3) := by decide +kernel
theorem dX6_addAll_10 : decode cX6_addAll 10 = .ok (.new 41, 3) := by decide +kernel
theorem dX6_addAll_13 : decode cX6_addAll 13 = .ok (.dup, 1) := by decide +kernel
theorem dX6_addAll_14 : decode cX6_addAll 14 = .ok (.ldc 185, 2) := by decide +kernel
theorem dX6_addAll_16 : decode cX6_addAll 16 = .ok (.invokespecial 45, 3) := by decide +kernel
theorem dX6_addAll_19 : decode cX6_addAll 19 = .ok (.athrow, 1) := by decide +kernel
theorem dX6_addAll_20 : decode cX6_addAll 20 = .ok (.aload_n 0, 1) := by decide +kernel
theorem dX6_addAll_21 : decode cX6_addAll 21 = .ok (.getfield 26, 3) := by decide +kernel
theorem dX6_addAll_24 : decode cX6_addAll 24 = .ok (.invokevirtual 187, 3) := by decide +kernel
theorem dX6_addAll_27 : decode cX6_addAll 27 = .ok (.istore_n 1, 1) := by decide +kernel
theorem dX6_addAll_28 : decode cX6_addAll 28 = .ok (.aload_n 0, 1) := by decide +kernel
theorem dX6_addAll_29 : decode cX6_addAll 29 = .ok (.getfield 10, 3) := by decide +kernel
theorem dX6_addAll_32 : decode cX6_addAll 32 = .ok (.getfield 113, 3) := by decide +kernel
theorem dX6_addAll_35 : decode cX6_addAll 35 = .ok (.iload_n 1, 1) := by decide +kernel
theorem dX6_addAll_36 : decode cX6_addAll 36 = .ok (.iadd, 1) := by decide +kernel
theorem dX6_addAll_37 : decode cX6_addAll 37 = .ok (.bipush 10, 2) := by decide +kernel
theorem dX6_addAll_39 : decode cX6_addAll 39 = .ok (.if_icmp .le 13, 3) := by decide +kernel
theorem dX6_addAll_42 : decode cX6_addAll 42 = .ok (.new 56, 3) := by decide +kernel
theorem dX6_addAll_45 : decode cX6_addAll 45 = .ok (.dup, 1) := by decide +kernel
theorem dX6_addAll_46 : decode cX6_addAll 46 = .ok (.ldc 116, 2) := by decide +kernel
theorem dX6_addAll_48 : decode cX6_addAll 48 = .ok (.invokespecial 60, 3) := by decide +kernel
theorem dX6_addAll_51 : decode cX6_addAll 51 = .ok (.athrow, 1) := by decide +kernel
theorem dX6_addAll_52 : decode cX6_addAll 52 = .ok (.aload_n 0, 1) := by decide +kernel
theorem dX6_addAll_53 : decode cX6_addAll 53 = .ok (.invokevirtual 61, 3) := by decide +kernel
theorem dX6_addAll_56 : decode cX6_addAll 56 = .ok (.aload_n 0, 1) := by decide +kernel
theorem dX6_addAll_57 : decode cX6_addAll 57 = .ok (.getfield 26, 3) := by decide +kernel
theorem dX6_addAll_60 : decode cX6_addAll 60 = .ok (.invokevirtual 190, 3) := by decide +kernel
theorem dX6_addAll_63 : decode cX6_addAll 63 = .ok (.iconst 0, 1) := by decide +kernel
theorem dX6_addAll_64 : decode cX6_addAll 64 = .ok (.istore_n 2, 1) := by decide +kernel
theorem dX6_addAll_65 : decode cX6_addAll 65 = .ok (.iload_n 2, 1) := by decide +kernel
theorem dX6_addAll_66 : decode cX6_addAll 66 = .ok (.iload_n 1, 1) := by decide +kernel
theorem dX6_addAll_67 : decode cX6_addAll 67 = .ok (.if_icmp .ge 59, 3) := by decide +kernel
theorem dX6_addAll_70 : decode cX6_addAll 70 = .ok (.aload_n 0, 1) := by decide +kernel
theorem dX6_addAll_71 : decode cX6_addAll 71 = .ok (.getfield 26, 3) := by decide +kernel
theorem dX6_addAll_74 : decode cX6_addAll 74 = .ok (.invokevirtual 193, 3) := by decide +kernel
theorem dX6_addAll_77 : decode cX6_addAll 77 = .ok (.aload_n 0, 1) := by decide +kernel
theorem dX6_addAll_78 : decode cX6_addAll 78 = .ok (.getfield 10, 3) := by decide +kernel
theorem dX6_addAll_81 : decode cX6_addAll 81 = .ok (.aload_n 0, 1) := by decide +kernel
theorem dX6_addAll_82 : decode cX6_addAll 82 = .ok (.getfield 26, 3) := by decide +kernel
theorem dX6_addAll_85 : decode cX6_addAll 85 = .ok (.getfield 196, 3) := by decide +kernel
theorem dX6_addAll_88 : decode cX6_addAll 88 = .ok (.aload_n 0, 1) := by decide +kernel
theorem dX6_addAll_89 : decode cX6_addAll 89 = .ok (.getfield 26, 3) := by decide +kernel
theorem dX6_addAll_92 : decode cX6_addAll 92 = .ok (.getfield 199, 3) := by decide +kernel
theorem dX6_addAll_95 : decode cX6_addAll 95 = .ok (.aload_n 0, 1) := by decide +kernel
theorem dX6_addAll_96 : decode cX6_addAll 96 = .ok (.getfield 26, 3) := by decide +kernel
theorem dX6_addAll_99 : decode cX6_addAll 99 = .ok (.getfield 202, 3) := by decide +kernel
theorem dX6_addAll_102 : decode cX6_addAll 102 = .ok (.aload_n 0, 1) := by decide +kernel
theorem dX6_addAll_103 : decode cX6_addAll 103 = .ok (.getfield 26, 3) := by decide +kernel
theorem dX6_addAll_106 : decode cX6_addAll 106 = .ok (.getfield 205, 3) := by decide +kernel
theorem dX6_addAll_109 : decode cX6_addAll 109 = .ok (.aload_n 0, 1) := by decide +kernel
theorem dX6_addAll_110 : decode cX6_addAll 110 = .ok (.getfield 26, 3) := by decide +kernel
theorem dX6_addAll_113 : decode cX6_addAll 113 = .ok (.getfield 208, 3) := by decide +kernel
theorem dX6_addAll_116 : decode cX6_addAll 116 = .ok (.invokevirtual 118, 3) := by decide +kernel
theorem dX6_addAll_119 : decode cX6_addAll 119 = .ok (.pop, 1) := by decide +kernel
theorem dX6_addAll_120 : decode cX6_addAll 120 = .ok (.iinc 2 1, 3) := by decide +kernel
theorem dX6_addAll_123 : decode cX6_addAll 123 = .ok (.goto (-58), 3) := by decide +kernel
theorem dX6_addAll_126 : decode cX6_addAll 126 = .ok (.aload_n 0, 1) := by decide +kernel
theorem dX6_addAll_127 : decode cX6_addAll 127 = .ok (.getfield 26, 3) := by decide +kernel
theorem dX6_addAll_130 : decode cX6_addAll 130 = .ok (.invokevirtual 176, 3) := by decide +kernel
theorem dX6_addAll_133 : decode cX6_addAll 133 = .ok (.pop, 1) := by decide +kernel
theorem dX6_addAll_134 : decode cX6_addAll 134 = .ok (.aload_n 0, 1) := by decide +kernel
theorem dX6_addAll_135 : decode cX6_addAll 135 = .ok (.getfield 10, 3) := by decide +kernel
theorem dX6_addAll_138 : decode cX6_addAll 138 = .ok (.getfield 113, 3) := by decide +kernel
theorem dX6_addAll_141 : decode cX6_addAll 141 = .ok (.ireturn, 1) := by decide +kernel
theorem dX6_undo_0 : decode cX6_undo 0 = .ok (.aload_n 0, 1) := by decide +kernel
theorem dX6_undo_1 : decode cX6_undo 1 = .ok (.aload_n 0, 1) := by decide +kernel
theorem dX6_undo_2 : decode cX6_undo 2 = .ok (.getfield 212, 3) := by decide +kernel
theorem dX6_undo_5 : decode cX6_undo 5 = .ok (.iconst 1, 1) := by decide +kernel
theorem dX6_undo_6 : decode cX6_undo 6 = .ok (.isub, 1) := by decide +kernel
theorem dX6_undo_7 : decode cX6_undo 7 = .ok (.invokevirtual 215, 3) := by decide +kernel
theorem dX6_undo_10 : decode cX6_undo 10 = .ok (.astore_n 1, 1) := by decide +kernel
theorem dX6_undo_11 : decode cX6_undo 11 = .ok (.aload_n 1, 1) := by decide +kernel
theorem dX6_undo_12 : decode cX6_undo 12 = .ok (.ifnonnull 13, 3) := by decide +kernel
theorem dX6_undo_15 : decode cX6_undo 15 = .ok (.new 56, 3) := by decide +kernel
theorem dX6_undo_18 : decode cX6_undo 18 = .ok (.dup, 1) := by decide +kernel
theorem dX6_undo_19 : decode cX6_undo 19 = .ok (.ldc 219, 2) := by decide +kernel
theorem dX6_undo_21 : decode cX6_undo 21 = .ok (.invokespecial 60, 3) := by decide +kernel
theorem dX6_undo_24 : decode cX6_undo 24 = .ok (.athrow, 1) := by decide +kernel
theorem dX6_undo_25 : decode cX6_undo 25 = .ok (.aload_n 0, 1) := by decide +kernel
theorem dX6_undo_26 : decode cX6_undo 26 = .ok (.getfield 10, 3) := by decide +kernel
theorem dX6_undo_29 : decode cX6_undo 29 = .ok (.aload_n 1, 1) := by decide +kernel
theorem dX6_undo_30 : decode cX6_undo 30 = .ok (.invokevirtual 221, 3) := by decide +kernel
theorem dX6_undo_33 : decode cX6_undo 33 = .ok (.aload_n 0, 1) := by decide +kernel
theorem dX6_undo_34 : decode cX6_undo 34 = .ok (.dup, 1) := by decide +kernel
theorem dX6_undo_35 : decode cX6_undo 35 = .ok (.getfield 212, 3) := by decide +kernel
theorem dX6_undo_38 : decode cX6_undo 38 = .ok (.iconst 1, 1) := by decide +kernel
theorem dX6_undo_39 : decode cX6_undo 39 = .ok (.isub, 1) := by decide +kernel
theorem dX6_undo_40 : decode cX6_undo 40 = .ok (.putfield 212, 3) := by decide +kernel
theorem dX6_undo_43 : decode cX6_undo 43 = .ok (.aload_n 0, 1) := by decide +kernel
theorem dX6_undo_44 : decode cX6_undo 44 = .ok (.getfield 212, 3) := by decide +kernel
theorem dX6_undo_47 : decode cX6_undo 47 = .ok (.ireturn, 1) := by decide +kernel
theorem dX6_heat_0 : decode cX6_heat 0 = .ok (.iload_n 1, 1) := by decide +kernel
theorem dX6_heat_1 : decode cX6_heat 1 = .ok (.iconst 0, 1) := by decide +kernel
theorem dX6_heat_2 : decode cX6_heat 2 = .ok (.iconst 3, 1) := by decide +kernel
theorem dX6_heat_3 : decode cX6_heat 3 = .ok (.invokestatic 30, 3) := by decide +kernel
theorem dX6_heat_6 : decode cX6_heat 6 = .ok (.ifCond .ne 13, 3) := by decide +kernel
theorem dX6_heat_9 : decode cX6_heat 9 = .ok (.new 34, 3) := by decide +kernel
theorem dX6_heat_12 : decode cX6_heat 12 = .ok (.dup, 1) := by decide +kernel
theorem dX6_heat_13 : decode cX6_heat 13 = .ok (.ldc 36, 2) := by decide +kernel
theorem dX6_heat_15 : decode cX6_heat 15 = .ok (.invokespecial 38, 3) := by decide +kernel
theorem dX6_heat_18 : decode cX6_heat 18 = .ok (.athrow, 1) := by decide +kernel
theorem dX6_heat_19 : decode cX6_heat 19 = .ok (.iload_n 2, 1) := by decide +kernel
theorem dX6_heat_20 : decode cX6_heat 20 = .ok (.iconst 0, 1) := by decide +kernel
theorem dX6_heat_21 : decode cX6_heat 21 = .ok (.bipush 6, 2) := by decide +kernel
theorem dX6_heat_23 : decode cX6_heat 23 = .ok (.invokestatic 30, 3) := by decide +kernel
theorem dX6_heat_26 : decode cX6_heat 26 = .ok (.ifCond .ne 13, 3) := by decide +kernel
theorem dX6_heat_29 : decode cX6_heat 29 = .ok (.new 41, 3) := by decide +kernel
theorem dX6_heat_32 : decode cX6_heat 32 = .ok (.dup, 1) := by decide +kernel
theorem dX6_heat_33 : decode cX6_heat 33 = .ok (.ldc 225, 2) := by decide +kernel
theorem dX6_heat_35 : decode cX6_heat 35 = .ok (.invokespecial 45, 3) := by decide +kernel
theorem dX6_heat_38 : decode cX6_heat 38 = .ok (.athrow, 1) := by decide +kernel
theorem dX6_heat_39 : decode cX6_heat 39 = .ok (.aload_n 0, 1) := by decide +kernel
theorem dX6_heat_40 : decode cX6_heat 40 = .ok (.getfield 10, 3) := by decide +kernel
theorem dX6_heat_43 : decode cX6_heat 43 = .ok (.iload_n 1, 1) := by decide +kernel
theorem dX6_heat_44 : decode cX6_heat 44 = .ok (.iload_n 2, 1) := by decide +kernel
theorem dX6_heat_45 : decode cX6_heat 45 = .ok (.invokevirtual 227, 3) := by decide +kernel
theorem dX6_heat_48 : decode cX6_heat 48 = .ok (.ireturn, 1) := by decide +kernel
theorem dX6_dieOf_0 : decode cX6_dieOf 0 = .ok (.iload_n 1, 1) := by decide +kernel
theorem dX6_dieOf_1 : decode cX6_dieOf 1 = .ok (.iconst 0, 1) := by decide +kernel
theorem dX6_dieOf_2 : decode cX6_dieOf 2 = .ok (.iconst 4, 1) := by decide +kernel
theorem dX6_dieOf_3 : decode cX6_dieOf 3 = .ok (.invokestatic 30, 3) := by decide +kernel
theorem dX6_dieOf_6 : decode cX6_dieOf 6 = .ok (.ifCond .ne 13, 3) := by decide +kernel
theorem dX6_dieOf_9 : decode cX6_dieOf 9 = .ok (.new 34, 3) := by decide +kernel
theorem dX6_dieOf_12 : decode cX6_dieOf 12 = .ok (.dup, 1) := by decide +kernel
theorem dX6_dieOf_13 : decode cX6_dieOf 13 = .ok (.ldc 72, 2) := by decide +kernel
theorem dX6_dieOf_15 : decode cX6_dieOf 15 = .ok (.invokespecial 38, 3) := by decide +kernel
theorem dX6_dieOf_18 : decode cX6_dieOf 18 = .ok (.athrow, 1) := by decide +kernel
theorem dX6_dieOf_19 : decode cX6_dieOf 19 = .ok (.iload_n 2, 1) := by decide +kernel
theorem dX6_dieOf_20 : decode cX6_dieOf 20 = .ok (.iconst 0, 1) := by decide +kernel
theorem dX6_dieOf_21 : decode cX6_dieOf 21 = .ok (.iconst 5, 1) := by decide +kernel
theorem dX6_dieOf_22 : decode cX6_dieOf 22 = .ok (.invokestatic 30, 3) := by decide +kernel
theorem dX6_dieOf_25 : decode cX6_dieOf 25 = .ok (.ifCond .ne 13, 3) := by decide +kernel
theorem dX6_dieOf_28 : decode cX6_dieOf 28 = .ok (.new 41, 3) := by decide +kernel
theorem dX6_dieOf_31 : decode cX6_dieOf 31 = .ok (.dup, 1) := by decide +kernel
theorem dX6_dieOf_32 : decode cX6_dieOf 32 = .ok (.ldc 225, 2) := by decide +kernel
theorem dX6_dieOf_34 : decode cX6_dieOf 34 = .ok (.invokespecial 45, 3) := by decide +kernel
theorem dX6_dieOf_37 : decode cX6_dieOf 37 = .ok (.athrow, 1) := by decide +kernel
theorem dX6_dieOf_38 : decode cX6_dieOf 38 = .ok (.aload_n 0, 1) := by decide +kernel
theorem dX6_dieOf_39 : decode cX6_dieOf 39 = .ok (.getfield 10, 3) := by decide +kernel
theorem dX6_dieOf_42 : decode cX6_dieOf 42 = .ok (.iload_n 1, 1) := by decide +kernel
theorem dX6_dieOf_43 : decode cX6_dieOf 43 = .ok (.invokevirtual 76, 3) := by decide +kernel
theorem dX6_dieOf_46 : decode cX6_dieOf 46 = .ok (.iload_n 2, 1) := by decide +kernel
theorem dX6_dieOf_47 : decode cX6_dieOf 47 = .ok (.invokevirtual 231, 3) := by decide +kernel
theorem dX6_dieOf_50 : decode cX6_dieOf 50 = .ok (.ireturn, 1) := by decide +kernel
theorem dX6_jobOf_0 : decode cX6_jobOf 0 = .ok (.iload_n 1, 1) := by decide +kernel
theorem dX6_jobOf_1 : decode cX6_jobOf 1 = .ok (.ifCond .lt 13, 3) := by decide +kernel
theorem dX6_jobOf_4 : decode cX6_jobOf 4 = .ok (.iload_n 2, 1) := by decide +kernel
theorem dX6_jobOf_5 : decode cX6_jobOf 5 = .ok (.iconst 0, 1) := by decide +kernel
theorem dX6_jobOf_6 : decode cX6_jobOf 6 = .ok (.bipush 7, 2) := by decide +kernel
theorem dX6_jobOf_8 : decode cX6_jobOf 8 = .ok (.invokestatic 30, 3) := by decide +kernel
theorem dX6_jobOf_11 : decode cX6_jobOf 11 = .ok (.ifCond .ne 13, 3) := by decide +kernel
theorem dX6_jobOf_14 : decode cX6_jobOf 14 = .ok (.new 41, 3) := by decide +kernel
theorem dX6_jobOf_17 : decode cX6_jobOf 17 = .ok (.dup, 1) := by decide +kernel
theorem dX6_jobOf_18 : decode cX6_jobOf 18 = .ok (.ldc 234, 2) := by decide +kernel
theorem dX6_jobOf_20 : decode cX6_jobOf 20 = .ok (.invokespecial 45, 3) := by decide +kernel
theorem dX6_jobOf_23 : decode cX6_jobOf 23 = .ok (.athrow, 1) := by decide +kernel
theorem dX6_jobOf_24 : decode cX6_jobOf 24 = .ok (.iload_n 1, 1) := by decide +kernel
theorem dX6_jobOf_25 : decode cX6_jobOf 25 = .ok (.aload_n 0, 1) := by decide +kernel
theorem dX6_jobOf_26 : decode cX6_jobOf 26 = .ok (.getfield 10, 3) := by decide +kernel
theorem dX6_jobOf_29 : decode cX6_jobOf 29 = .ok (.getfield 113, 3) := by decide +kernel
theorem dX6_jobOf_32 : decode cX6_jobOf 32 = .ok (.if_icmp .ge 15, 3) := by decide +kernel
theorem dX6_jobOf_35 : decode cX6_jobOf 35 = .ok (.aload_n 0, 1) := by decide +kernel
theorem dX6_jobOf_36 : decode cX6_jobOf 36 = .ok (.getfield 10, 3) := by decide +kernel
theorem dX6_jobOf_39 : decode cX6_jobOf 39 = .ok (.iload_n 1, 1) := by decide +kernel
theorem dX6_jobOf_40 : decode cX6_jobOf 40 = .ok (.iload_n 2, 1) := by decide +kernel
theorem dX6_jobOf_41 : decode cX6_jobOf 41 = .ok (.invokevirtual 236, 3) := by decide +kernel
theorem dX6_jobOf_44 : decode cX6_jobOf 44 = .ok (.goto 4, 3) := by decide +kernel
theorem dX6_jobOf_47 : decode cX6_jobOf 47 = .ok (.iconst (-1), 1) := by decide +kernel
theorem dX6_jobOf_48 : decode cX6_jobOf 48 = .ok (.ireturn, 1) := by decide +kernel
theorem dX6_billet_0 : decode cX6_billet 0 = .ok (.iload_n 1, 1) := by decide +kernel
theorem dX6_billet_1 : decode cX6_billet 1 = .ok (.iconst 0, 1) := by decide +kernel
theorem dX6_billet_2 : decode cX6_billet 2 = .ok (.bipush 6, 2) := by decide +kernel
theorem dX6_billet_4 : decode cX6_billet 4 = .ok (.invokestatic 30, 3) := by decide +kernel
theorem dX6_billet_7 : decode cX6_billet 7 = .ok (.ifCond .ne 13, 3) := by decide +kernel
theorem dX6_billet_10 : decode cX6_billet 10 = .ok (.new 34, 3) := by decide +kernel
theorem dX6_billet_13 : decode cX6_billet 13 = .ok (.dup, 1) := by decide +kernel
theorem dX6_billet_14 : decode cX6_billet 14 = .ok (.ldc 239, 2) := by decide +kernel
theorem dX6_billet_16 : decode cX6_billet 16 = .ok (.invokespecial 38, 3) := by decide +kernel
theorem dX6_billet_19 : decode cX6_billet 19 = .ok (.athrow, 1) := by decide +kernel
theorem dX6_billet_20 : decode cX6_billet 20 = .ok (.iload_n 2, 1) := by decide +kernel
theorem dX6_billet_21 : decode cX6_billet 21 = .ok (.iconst 0, 1) := by decide +kernel
theorem dX6_billet_22 : decode cX6_billet 22 = .ok (.iconst 3, 1) := by decide +kernel
theorem dX6_billet_23 : decode cX6_billet 23 = .ok (.invokestatic 30, 3) := by decide +kernel
theorem dX6_billet_26 : decode cX6_billet 26 = .ok (.ifCond .ne 13, 3) := by decide +kernel
theorem dX6_billet_29 : decode cX6_billet 29 = .ok (.new 41, 3) := by decide +kernel
theorem dX6_billet_32 : decode cX6_billet 32 = .ok (.dup, 1) := by decide +kernel
theorem dX6_billet_33 : decode cX6_billet 33 = .ok (.ldc 225, 2) := by decide +kernel
theorem dX6_billet_35 : decode cX6_billet 35 = .ok (.invokespecial 45, 3) := by decide +kernel
theorem dX6_billet_38 : decode cX6_billet 38 = .ok (.athrow, 1) := by decide +kernel
theorem dX6_billet_39 : decode cX6_billet 39 = .ok (.aload_n 0, 1) := by decide +kernel
theorem dX6_billet_40 : decode cX6_billet 40 = .ok (.getfield 10, 3) := by decide +kernel
theorem dX6_billet_43 : decode cX6_billet 43 = .ok (.iload_n 1, 1) := by decide +kernel
theorem dX6_billet_44 : decode cX6_billet 44 = .ok (.invokevirtual 241, 3) := by decide +kernel
theorem dX6_billet_47 : decode cX6_billet 47 = .ok (.iload_n 2, 1) := by decide +kernel
theorem dX6_billet_48 : decode cX6_billet 48 = .ok (.invokevirtual 245, 3) := by decide +kernel
theorem dX6_billet_51 : decode cX6_billet 51 = .ok (.ireturn, 1) := by decide +kernel
theorem dX6_count_0 : decode cX6_count 0 = .ok (.iload_n 1, 1) := by decide +kernel
theorem dX6_count_1 : decode cX6_count 1 = .ok (.iconst 0, 1) := by decide +kernel
theorem dX6_count_2 : decode cX6_count 2 = .ok (.bipush 11, 2) := by decide +kernel
theorem dX6_count_4 : decode cX6_count 4 = .ok (.invokestatic 30, 3) := by decide +kernel
theorem dX6_count_7 : decode cX6_count 7 = .ok (.ifCond .ne 13, 3) := by decide +kernel
theorem dX6_count_10 : decode cX6_count 10 = .ok (.new 41, 3) := by decide +kernel
theorem dX6_count_13 : decode cX6_count 13 = .ok (.dup, 1) := by decide +kernel
theorem dX6_count_14 : decode cX6_count 14 = .ok (.ldc 248, 2) := by decide +kernel
theorem dX6_count_16 : decode cX6_count 16 = .ok (.invokespecial 45, 3) := by decide +kernel
theorem dX6_count_19 : decode cX6_count 19 = .ok (.athrow, 1) := by decide +kernel
theorem dX6_count_20 : decode cX6_count 20 = .ok (.aload_n 0, 1) := by decide +kernel
theorem dX6_count_21 : decode cX6_count 21 = .ok (.iload_n 1, 1) := by decide +kernel
theorem dX6_count_22 : decode cX6_count 22 = .ok (.invokevirtual 250, 3) := by decide +kernel
theorem dX6_count_25 : decode cX6_count 25 = .ok (.ireturn, 1) := by decide +kernel
theorem dX6_setting_0 : decode cX6_setting 0 = .ok (.iload_n 1, 1) := by decide +kernel
theorem dX6_setting_1 : decode cX6_setting 1 = .ok (.iconst 0, 1) := by decide +kernel
theorem dX6_setting_2 : decode cX6_setting 2 = .ok (.iconst 3, 1) := by decide +kernel
theorem dX6_setting_3 : decode cX6_setting 3 = .ok (.invokestatic 30, 3) := by decide +kernel
theorem dX6_setting_6 : decode cX6_setting 6 = .ok (.ifCond .ne 13, 3) := by decide +kernel
theorem dX6_setting_9 : decode cX6_setting 9 = .ok (.new 34, 3) := by decide +kernel
theorem dX6_setting_12 : decode cX6_setting 12 = .ok (.dup, 1) := by decide +kernel
theorem dX6_setting_13 : decode cX6_setting 13 = .ok (.ldc 135, 2) := by decide +kernel
theorem dX6_setting_15 : decode cX6_setting 15 = .ok (.invokespecial 38, 3) := by decide +kernel
theorem dX6_setting_18 : decode cX6_setting 18 = .ok (.athrow, 1) := by decide +kernel
theorem dX6_setting_19 : decode cX6_setting 19 = .ok (.aload_n 0, 1) := by decide +kernel
theorem dX6_setting_20 : decode cX6_setting 20 = .ok (.getfield 10, 3) := by decide +kernel
theorem dX6_setting_23 : decode cX6_setting 23 = .ok (.iload_n 1, 1) := by decide +kernel
theorem dX6_setting_24 : decode cX6_setting 24 = .ok (.invokevirtual 145, 3) := by decide +kernel
theorem dX6_setting_27 : decode cX6_setting 27 = .ok (.ireturn, 1) := by decide +kernel
theorem dX6_ifPassed_0 : decode cX6_ifPassed 0 = .ok (.iload_n 1, 1) := by decide +kernel
theorem dX6_ifPassed_1 : decode cX6_ifPassed 1 = .ok (.iconst 1, 1) := by decide +kernel
theorem dX6_ifPassed_2 : decode cX6_ifPassed 2 = .ok (.sipush 240, 3) := by decide +kernel
theorem dX6_ifPassed_5 : decode cX6_ifPassed 5 = .ok (.invokestatic 30, 3) := by decide +kernel
theorem dX6_ifPassed_8 : decode cX6_ifPassed 8 = .ok (.ifCond .eq 12, 3) := by decide +kernel
theorem dX6_ifPassed_11 : decode cX6_ifPassed 11 = .ok (.iload_n 2, 1) := by decide +kernel
theorem dX6_ifPassed_12 : decode cX6_ifPassed 12 = .ok (.iconst 0, 1) := by decide +kernel
theorem dX6_ifPassed_13 : decode cX6_ifPassed 13 = .ok (.iconst 4, 1) := by decide +kernel
theorem dX6_ifPassed_14 : decode cX6_ifPassed 14 = .ok (.invokestatic 30, 3) := by decide +kernel
theorem dX6_ifPassed_17 : decode cX6_ifPassed 17 = .ok (.ifCond .ne 13, 3) := by decide +kernel
theorem dX6_ifPassed_20 : decode cX6_ifPassed 20 = .ok (.new 41, 3) := by decide +kernel
theorem dX6_ifPassed_23 : decode cX6_ifPassed 23 = .ok (.dup, 1) := by decide +kernel
theorem dX6_ifPassed_24 : decode cX6_ifPassed 24 = .ok (.ldc 253, 2) := by decide +kernel
theorem dX6_ifPassed_26 : decode cX6_ifPassed 26 = .ok (.invokespecial 45, 3) := by decide +kernel
theorem dX6_ifPassed_29 : decode cX6_ifPassed 29 = .ok (.athrow, 1) := by decide +kernel
theorem dX6_ifPassed_30 : decode cX6_ifPassed 30 = .ok (.aload_n 0, 1) := by decide +kernel
theorem dX6_ifPassed_31 : decode cX6_ifPassed 31 = .ok (.iload_n 1, 1) := by decide +kernel
theorem dX6_ifPassed_32 : decode cX6_ifPassed 32 = .ok (.invokevirtual 255, 3) := by decide +kernel
theorem dX6_ifPassed_35 : decode cX6_ifPassed 35 = .ok (.aload_n 0, 1) := by decide +kernel
theorem dX6_ifPassed_36 : decode cX6_ifPassed 36 = .ok (.iload_n 2, 1) := by decide +kernel
theorem dX6_ifPassed_37 : decode cX6_ifPassed 37 = .ok (.invokevirtual 258, 3) := by decide +kernel
theorem dX6_ifPassed_40 : decode cX6_ifPassed 40 = .ok (.ireturn, 1) := by decide +kernel
theorem dX6_doneIn_0 : decode cX6_doneIn 0 = .ok (.aload_n 0, 1) := by decide +kernel
theorem dX6_doneIn_1 : decode cX6_doneIn 1 = .ok (.getfield 10, 3) := by decide +kernel
theorem dX6_doneIn_4 : decode cX6_doneIn 4 = .ok (.iload_n 1, 1) := by decide +kernel
theorem dX6_doneIn_5 : decode cX6_doneIn 5 = .ok (.invokevirtual 122, 3) := by decide +kernel
theorem dX6_doneIn_8 : decode cX6_doneIn 8 = .ok (.iconst (-1), 1) := by decide +kernel
theorem dX6_doneIn_9 : decode cX6_doneIn 9 = .ok (.if_icmp .ne 13, 3) := by decide +kernel
theorem dX6_doneIn_12 : decode cX6_doneIn 12 = .ok (.new 34, 3) := by decide +kernel
theorem dX6_doneIn_15 : decode cX6_doneIn 15 = .ok (.dup, 1) := by decide +kernel
theorem dX6_doneIn_16 : decode cX6_doneIn 16 = .ok (.ldc 126, 2) := by decide +kernel
theorem dX6_doneIn_18 : decode cX6_doneIn 18 = .ok (.invokespecial 38, 3) := by decide +kernel
theorem dX6_doneIn_21 : decode cX6_doneIn 21 = .ok (.athrow, 1) := by decide +kernel
theorem dX6_doneIn_22 : decode cX6_doneIn 22 = .ok (.aload_n 0, 1) := by decide +kernel
theorem dX6_doneIn_23 : decode cX6_doneIn 23 = .ok (.iload_n 1, 1) := by decide +kernel
theorem dX6_doneIn_24 : decode cX6_doneIn 24 = .ok (.invokevirtual 261, 3) := by decide +kernel
theorem dX6_doneIn_27 : decode cX6_doneIn 27 = .ok (.ireturn, 1) := by decide +kernel
theorem dX6_ifRush_0 : decode cX6_ifRush 0 = .ok (.aload_n 0, 1) := by decide +kernel
theorem dX6_ifRush_1 : decode cX6_ifRush 1 = .ok (.getfield 10, 3) := by decide +kernel
theorem dX6_ifRush_4 : decode cX6_ifRush 4 = .ok (.iload_n 1, 1) := by decide +kernel
theorem dX6_ifRush_5 : decode cX6_ifRush 5 = .ok (.invokevirtual 122, 3) := by decide +kernel
theorem dX6_ifRush_8 : decode cX6_ifRush 8 = .ok (.iconst (-1), 1) := by decide +kernel
theorem dX6_ifRush_9 : decode cX6_ifRush 9 = .ok (.if_icmp .ne 13, 3) := by decide +kernel
theorem dX6_ifRush_12 : decode cX6_ifRush 12 = .ok (.new 34, 3) := by decide +kernel
theorem dX6_ifRush_15 : decode cX6_ifRush 15 = .ok (.dup, 1) := by decide +kernel
theorem dX6_ifRush_16 : decode cX6_ifRush 16 = .ok (.ldc 126, 2) := by decide +kernel
theorem dX6_ifRush_18 : decode cX6_ifRush 18 = .ok (.invokespecial 38, 3) := by decide +kernel
theorem dX6_ifRush_21 : decode cX6_ifRush 21 = .ok (.athrow, 1) := by decide +kernel
theorem dX6_ifRush_22 : decode cX6_ifRush 22 = .ok (.aload_n 0, 1) := by decide +kernel
theorem dX6_ifRush_23 : decode cX6_ifRush 23 = .ok (.iload_n 1, 1) := by decide +kernel
theorem dX6_ifRush_24 : decode cX6_ifRush 24 = .ok (.aload_n 0, 1) := by decide +kernel
theorem dX6_ifRush_25 : decode cX6_ifRush 25 = .ok (.iload_n 1, 1) := by decide +kernel
theorem dX6_ifRush_26 : decode cX6_ifRush 26 = .ok (.invokevirtual 261, 3) := by decide +kernel
theorem dX6_ifRush_29 : decode cX6_ifRush 29 = .ok (.invokevirtual 264, 3) := by decide +kernel
theorem dX6_ifRush_32 : decode cX6_ifRush 32 = .ok (.ireturn, 1) := by decide +kernel
theorem dX6_bestReheats_0 : decode cX6_bestReheats 0 = .ok (.iload_n 1, 1) := by decide +kernel
theorem dX6_bestReheats_1 : decode cX6_bestReheats 1 = .ok (.iconst 1, 1) := by decide +kernel
theorem dX6_bestReheats_2 : decode cX6_bestReheats 2 = .ok (.bipush 120, 2) := by decide +kernel
theorem dX6_bestReheats_4 : decode cX6_bestReheats 4 = .ok (.invokestatic 30, 3) := by decide +kernel
theorem dX6_bestReheats_7 : decode cX6_bestReheats 7 = .ok (.ifCond .ne 13, 3) := by decide +kernel
theorem dX6_bestReheats_10 : decode cX6_bestReheats 10 = .ok (.new 41, 3) := by decide +kernel
theorem dX6_bestReheats_13 : decode cX6_bestReheats 13 = .ok (.dup, 1) := by decide +kernel
theorem dX6_bestReheats_14 : decode cX6_bestReheats 14 = .ok (.ldc 152, 2) := by decide +kernel
theorem dX6_bestReheats_16 : decode cX6_bestReheats 16 = .ok (.invokespecial 45, 3) := by decide +kernel
theorem dX6_bestReheats_19 : decode cX6_bestReheats 19 = .ok (.athrow, 1) := by decide +kernel
theorem dX6_bestReheats_20 : decode cX6_bestReheats 20 = .ok (.aload_n 0, 1) := by decide +kernel
theorem dX6_bestReheats_21 : decode cX6_bestReheats 21 = .ok (.iload_n 1, 1) := by decide +kernel
theorem dX6_bestReheats_22 : decode cX6_bestReheats 22 = .ok (.invokevirtual 267, 3) := by decide +kernel
theorem dX6_bestReheats_25 : decode cX6_bestReheats 25 = .ok (.ireturn, 1) := by decide +kernel
theorem dX6_saved_0 : decode cX6_saved 0 = .ok (.aload_n 0, 1) := by decide +kernel
theorem dX6_saved_1 : decode cX6_saved 1 = .ok (.invokevirtual 270, 3) := by decide +kernel
theorem dX6_saved_4 : decode cX6_saved 4 = .ok (.dreturn, 1) := by decide +kernel
theorem dX6_digest_0 : decode cX6_digest 0 = .ok (.ldc2_w 274, 3) := by decide +kernel
theorem dX6_digest_3 : decode cX6_digest 3 = .ok (.lstore_n 1, 1) := by decide +kernel
theorem dX6_digest_4 : decode cX6_digest 4 = .ok (.iconst 0, 1) := by decide +kernel
theorem dX6_digest_5 : decode cX6_digest 5 = .ok (.istore_n 3, 1) := by decide +kernel
theorem dX6_digest_6 : decode cX6_digest 6 = .ok (.iload_n 3, 1) := by decide +kernel
theorem dX6_digest_7 : decode cX6_digest 7 = .ok (.bipush 12, 2) := by decide +kernel
theorem dX6_digest_9 : decode cX6_digest 9 = .ok (.if_icmp .ge 20, 3) := by decide +kernel
theorem dX6_digest_12 : decode cX6_digest 12 = .ok (.lload_n 1, 1) := by decide +kernel
theorem dX6_digest_13 : decode cX6_digest 13 = .ok (.aload_n 0, 1) := by decide +kernel
theorem dX6_digest_14 : decode cX6_digest 14 = .ok (.iload_n 3, 1) := by decide +kernel
theorem dX6_digest_15 : decode cX6_digest 15 = .ok (.invokevirtual 250, 3) := by decide +kernel
theorem dX6_digest_18 : decode cX6_digest 18 = .ok (.i2l, 1) := by decide +kernel
theorem dX6_digest_19 : decode cX6_digest 19 = .ok (.invokestatic 276, 3) := by decide +kernel
theorem dX6_digest_22 : decode cX6_digest 22 = .ok (.lstore_n 1, 1) := by decide +kernel
theorem dX6_digest_23 : decode cX6_digest 23 = .ok (.iinc 3 1, 3) := by decide +kernel
theorem dX6_digest_26 : decode cX6_digest 26 = .ok (.goto (-20), 3) := by decide +kernel
theorem dX6_digest_29 : decode cX6_digest 29 = .ok (.aload_n 0, 1) := by decide +kernel
theorem dX6_digest_30 : decode cX6_digest 30 = .ok (.lload_n 1, 1) := by decide +kernel
theorem dX6_digest_31 : decode cX6_digest 31 = .ok (.invokevirtual 280, 3) := by decide +kernel
theorem dX6_digest_34 : decode cX6_digest 34 = .ok (.lstore_n 1, 1) := by decide +kernel
theorem dX6_digest_35 : decode cX6_digest 35 = .ok (.aload_n 0, 1) := by decide +kernel
theorem dX6_digest_36 : decode cX6_digest 36 = .ok (.lload_n 1, 1) := by decide +kernel
theorem dX6_digest_37 : decode cX6_digest 37 = .ok (.invokevirtual 284, 3) := by decide +kernel
theorem dX6_digest_40 : decode cX6_digest 40 = .ok (.lstore_n 1, 1) := by decide +kernel
theorem dX6_digest_41 : decode cX6_digest 41 = .ok (.aload_n 0, 1) := by decide +kernel
theorem dX6_digest_42 : decode cX6_digest 42 = .ok (.bipush 30, 2) := by decide +kernel
theorem dX6_digest_44 : decode cX6_digest 44 = .ok (.invokevirtual 255, 3) := by decide +kernel
theorem dX6_digest_47 : decode cX6_digest 47 = .ok (.iconst 0, 1) := by decide +kernel
theorem dX6_digest_48 : decode cX6_digest 48 = .ok (.istore_n 3, 1) := by decide +kernel
theorem dX6_digest_49 : decode cX6_digest 49 = .ok (.iload_n 3, 1) := by decide +kernel
theorem dX6_digest_50 : decode cX6_digest 50 = .ok (.iconst 5, 1) := by decide +kernel
theorem dX6_digest_51 : decode cX6_digest 51 = .ok (.if_icmp .ge 20, 3) := by decide +kernel
theorem dX6_digest_54 : decode cX6_digest 54 = .ok (.lload_n 1, 1) := by decide +kernel
theorem dX6_digest_55 : decode cX6_digest 55 = .ok (.aload_n 0, 1) := by decide +kernel
theorem dX6_digest_56 : decode cX6_digest 56 = .ok (.iload_n 3, 1) := by decide +kernel
theorem dX6_digest_57 : decode cX6_digest 57 = .ok (.invokevirtual 258, 3) := by decide +kernel
theorem dX6_digest_60 : decode cX6_digest 60 = .ok (.i2l, 1) := by decide +kernel
theorem dX6_digest_61 : decode cX6_digest 61 = .ok (.invokestatic 276, 3) := by decide +kernel
theorem dX6_digest_64 : decode cX6_digest 64 = .ok (.lstore_n 1, 1) := by decide +kernel
theorem dX6_digest_65 : decode cX6_digest 65 = .ok (.iinc 3 1, 3) := by decide +kernel
theorem dX6_digest_68 : decode cX6_digest 68 = .ok (.goto (-19), 3) := by decide +kernel
theorem dX6_digest_71 : decode cX6_digest 71 = .ok (.lload_n 1, 1) := by decide +kernel
theorem dX6_digest_72 : decode cX6_digest 72 = .ok (.aload_n 0, 1) := by decide +kernel
theorem dX6_digest_73 : decode cX6_digest 73 = .ok (.bipush 40, 2) := by decide +kernel
theorem dX6_digest_75 : decode cX6_digest 75 = .ok (.invokevirtual 267, 3) := by decide +kernel
theorem dX6_digest_78 : decode cX6_digest 78 = .ok (.i2l, 1) := by decide +kernel
theorem dX6_digest_79 : decode cX6_digest 79 = .ok (.invokestatic 276, 3) := by decide +kernel
theorem dX6_digest_82 : decode cX6_digest 82 = .ok (.lstore_n 1, 1) := by decide +kernel
theorem dX6_digest_83 : decode cX6_digest 83 = .ok (.lload_n 1, 1) := by decide +kernel
theorem dX6_digest_84 : decode cX6_digest 84 = .ok (.aload_n 0, 1) := by decide +kernel
theorem dX6_digest_85 : decode cX6_digest 85 = .ok (.invokevirtual 270, 3) := by decide +kernel
theorem dX6_digest_88 : decode cX6_digest 88 = .ok (.invokestatic 287, 3) := by decide +kernel
theorem dX6_digest_91 : decode cX6_digest 91 = .ok (.invokestatic 276, 3) := by decide +kernel
theorem dX6_digest_94 : decode cX6_digest 94 = .ok (.lstore_n 1, 1) := by decide +kernel
theorem dX6_digest_95 : decode cX6_digest 95 = .ok (.lload_n 1, 1) := by decide +kernel
theorem dX6_digest_96 : decode cX6_digest 96 = .ok (.aload_n 0, 1) := by decide +kernel
theorem dX6_digest_97 : decode cX6_digest 97 = .ok (.getfield 26, 3) := by decide +kernel
theorem dX6_digest_100 : decode cX6_digest 100 = .ok (.getfield 291, 3) := by decide +kernel
theorem dX6_digest_103 : decode cX6_digest 103 = .ok (.i2l, 1) := by decide +kernel
theorem dX6_digest_104 : decode cX6_digest 104 = .ok (.invokestatic 276, 3) := by decide +kernel
theorem dX6_digest_107 : decode cX6_digest 107 = .ok (.lstore_n 1, 1) := by decide +kernel
theorem dX6_digest_108 : decode cX6_digest 108 = .ok (.iconst 0, 1) := by decide +kernel
theorem dX6_digest_109 : decode cX6_digest 109 = .ok (.istore_n 3, 1) := by decide +kernel
theorem dX6_digest_110 : decode cX6_digest 110 = .ok (.iload_n 3, 1) := by decide +kernel
theorem dX6_digest_111 : decode cX6_digest 111 = .ok (.aload_n 0, 1) := by decide +kernel
theorem dX6_digest_112 : decode cX6_digest 112 = .ok (.getfield 26, 3) := by decide +kernel
theorem dX6_digest_115 : decode cX6_digest 115 = .ok (.getfield 291, 3) := by decide +kernel
theorem dX6_digest_118 : decode cX6_digest 118 = .ok (.if_icmp .ge 23, 3) := by decide +kernel
theorem dX6_digest_121 : decode cX6_digest 121 = .ok (.lload_n 1, 1) := by decide +kernel
theorem dX6_digest_122 : decode cX6_digest 122 = .ok (.aload_n 0, 1) := by decide +kernel
theorem dX6_digest_123 : decode cX6_digest 123 = .ok (.getfield 26, 3) := by decide +kernel
theorem dX6_digest_126 : decode cX6_digest 126 = .ok (.iload_n 3, 1) := by decide +kernel
theorem dX6_digest_127 : decode cX6_digest 127 = .ok (.invokevirtual 294, 3) := by decide +kernel
theorem dX6_digest_130 : decode cX6_digest 130 = .ok (.i2l, 1) := by decide +kernel
theorem dX6_digest_131 : decode cX6_digest 131 = .ok (.invokestatic 276, 3) := by decide +kernel
theorem dX6_digest_134 : decode cX6_digest 134 = .ok (.lstore_n 1, 1) := by decide +kernel
theorem dX6_digest_135 : decode cX6_digest 135 = .ok (.iinc 3 1, 3) := by decide +kernel
theorem dX6_digest_138 : decode cX6_digest 138 = .ok (.goto (-28), 3) := by decide +kernel
theorem dX6_digest_141 : decode cX6_digest 141 = .ok (.lload_n 1, 1) := by decide +kernel
theorem dX6_digest_142 : decode cX6_digest 142 = .ok (.lreturn, 1) := by decide +kernel
theorem dX6_isWithin_0 : decode cX6_isWithin 0 = .ok (.iload_n 0, 1) := by decide +kernel
theorem dX6_isWithin_1 : decode cX6_isWithin 1 = .ok (.iload_n 1, 1) := by decide +kernel
theorem dX6_isWithin_2 : decode cX6_isWithin 2 = .ok (.if_icmp .lt 12, 3) := by decide +kernel
theorem dX6_isWithin_5 : decode cX6_isWithin 5 = .ok (.iload_n 0, 1) := by decide +kernel
theorem dX6_isWithin_6 : decode cX6_isWithin 6 = .ok (.iload_n 2, 1) := by decide +kernel
theorem dX6_isWithin_7 : decode cX6_isWithin 7 = .ok (.if_icmp .gt 7, 3) := by decide +kernel
theorem dX6_isWithin_10 : decode cX6_isWithin 10 = .ok (.iconst 1, 1) := by decide +kernel
theorem dX6_isWithin_11 : decode cX6_isWithin 11 = .ok (.goto 4, 3) := by decide +kernel
theorem dX6_isWithin_14 : decode cX6_isWithin 14 = .ok (.iconst 0, 1) := by decide +kernel
theorem dX6_isWithin_15 : decode cX6_isWithin 15 = .ok (.ireturn, 1) := by decide +kernel
theorem dX6_leastValue_0 : decode cX6_leastValue 0 = .ok (.iload_n 0, 1) := by decide +kernel
theorem dX6_leastValue_1 : decode cX6_leastValue 1 = .ok (.lookupswitch 32 #[(0, 27), (2, 30)], 27) := by decide +kernel
theorem dX6_leastValue_28 : decode cX6_leastValue 28 = .ok (.bipush 10, 2) := by decide +kernel
theorem dX6_leastValue_30 : decode cX6_leastValue 30 = .ok (.ireturn, 1) := by decide +kernel
theorem dX6_leastValue_31 : decode cX6_leastValue 31 = .ok (.iconst 0, 1) := by decide +kernel
theorem dX6_leastValue_32 : decode cX6_leastValue 32 = .ok (.ireturn, 1) := by decide +kernel
theorem dX6_leastValue_33 : decode cX6_leastValue 33 = .ok (.iconst 1, 1) := by decide +kernel
theorem dX6_leastValue_34 : decode cX6_leastValue 34 = .ok (.ireturn, 1) := by decide +kernel
theorem dX6_mostValue_0 : decode cX6_mostValue 0 = .ok (.iload_n 0, 1) := by decide +kernel
theorem dX6_mostValue_1 : decode cX6_mostValue 1 = .ok (.tableswitch 37 0 2 #[27, 31, 35], 27) := by decide +kernel
theorem dX6_mostValue_28 : decode cX6_mostValue 28 = .ok (.sipush 300, 3) := by decide +kernel
theorem dX6_mostValue_31 : decode cX6_mostValue 31 = .ok (.ireturn, 1) := by decide +kernel
theorem dX6_mostValue_32 : decode cX6_mostValue 32 = .ok (.sipush 200, 3) := by decide +kernel
theorem dX6_mostValue_35 : decode cX6_mostValue 35 = .ok (.ireturn, 1) := by decide +kernel
theorem dX6_mostValue_36 : decode cX6_mostValue 36 = .ok (.iconst 3, 1) := by decide +kernel
theorem dX6_mostValue_37 : decode cX6_mostValue 37 = .ok (.ireturn, 1) := by decide +kernel
theorem dX6_mostValue_38 : decode cX6_mostValue 38 = .ok (.bipush 30, 2) := by decide +kernel
theorem dX6_mostValue_40 : decode cX6_mostValue 40 = .ok (.ireturn, 1) := by decide +kernel
theorem dX6_remember_0 : decode cX6_remember 0 = .ok (.aload_n 0, 1) := by decide +kernel
theorem dX6_remember_1 : decode cX6_remember 1 = .ok (.getfield 212, 3) := by decide +kernel
theorem dX6_remember_4 : decode cX6_remember 4 = .ok (.aload_n 0, 1) := by decide +kernel
theorem dX6_remember_5 : decode cX6_remember 5 = .ok (.getfield 19, 3) := by decide +kernel
theorem dX6_remember_8 : decode cX6_remember 8 = .ok (.arraylength, 1) := by decide +kernel
theorem dX6_remember_9 : decode cX6_remember 9 = .ok (.if_icmp .lt 7, 3) := by decide +kernel
theorem dX6_remember_12 : decode cX6_remember 12 = .ok (.aload_n 0, 1) := by decide +kernel
theorem dX6_remember_13 : decode cX6_remember 13 = .ok (.invokevirtual 297, 3) := by decide +kernel
theorem dX6_remember_16 : decode cX6_remember 16 = .ok (.aload_n 0, 1) := by decide +kernel
theorem dX6_remember_17 : decode cX6_remember 17 = .ok (.aload_n 0, 1) := by decide +kernel
theorem dX6_remember_18 : decode cX6_remember 18 = .ok (.getfield 212, 3) := by decide +kernel
theorem dX6_remember_21 : decode cX6_remember 21 = .ok (.invokevirtual 215, 3) := by decide +kernel
theorem dX6_remember_24 : decode cX6_remember 24 = .ok (.astore_n 1, 1) := by decide +kernel
theorem dX6_remember_25 : decode cX6_remember 25 = .ok (.aload_n 1, 1) := by decide +kernel
theorem dX6_remember_26 : decode cX6_remember 26 = .ok (.ifnull 21, 3) := by decide +kernel
theorem dX6_remember_29 : decode cX6_remember 29 = .ok (.aload_n 1, 1) := by decide +kernel
theorem dX6_remember_30 : decode cX6_remember 30 = .ok (.aload_n 0, 1) := by decide +kernel
theorem dX6_remember_31 : decode cX6_remember 31 = .ok (.getfield 10, 3) := by decide +kernel
theorem dX6_remember_34 : decode cX6_remember 34 = .ok (.invokevirtual 221, 3) := by decide +kernel
theorem dX6_remember_37 : decode cX6_remember 37 = .ok (.aload_n 0, 1) := by decide +kernel
theorem dX6_remember_38 : decode cX6_remember 38 = .ok (.dup, 1) := by decide +kernel
theorem dX6_remember_39 : decode cX6_remember 39 = .ok (.getfield 212, 3) := by decide +kernel
theorem dX6_remember_42 : decode cX6_remember 42 = .ok (.iconst 1, 1) := by decide +kernel
theorem dX6_remember_43 : decode cX6_remember 43 = .ok (.iadd, 1) := by decide +kernel
theorem dX6_remember_44 : decode cX6_remember 44 = .ok (.putfield 212, 3) := by decide +kernel
theorem dX6_remember_47 : decode cX6_remember 47 = .ok (.return_, 1) := by decide +kernel
theorem dX6_dropOldest_0 : decode cX6_dropOldest 0 = .ok (.aload_n 0, 1) := by decide +kernel
theorem dX6_dropOldest_1 : decode cX6_dropOldest 1 = .ok (.iconst 0, 1) := by decide +kernel
theorem dX6_dropOldest_2 : decode cX6_dropOldest 2 = .ok (.invokevirtual 215, 3) := by decide +kernel
theorem dX6_dropOldest_5 : decode cX6_dropOldest 5 = .ok (.astore_n 1, 1) := by decide +kernel
theorem dX6_dropOldest_6 : decode cX6_dropOldest 6 = .ok (.aload_n 0, 1) := by decide +kernel
theorem dX6_dropOldest_7 : decode cX6_dropOldest 7 = .ok (.getfield 19, 3) := by decide +kernel
theorem dX6_dropOldest_10 : decode cX6_dropOldest 10 = .ok (.arraylength, 1) := by decide +kernel
theorem dX6_dropOldest_11 : decode cX6_dropOldest 11 = .ok (.iconst 1, 1) := by decide +kernel
theorem dX6_dropOldest_12 : decode cX6_dropOldest 12 = .ok (.isub, 1) := by decide +kernel
theorem dX6_dropOldest_13 : decode cX6_dropOldest 13 = .ok (.istore_n 2, 1) := by decide +kernel
theorem dX6_dropOldest_14 : decode cX6_dropOldest 14 = .ok (.iconst 0, 1) := by decide +kernel
theorem dX6_dropOldest_15 : decode cX6_dropOldest 15 = .ok (.istore_n 3, 1) := by decide +kernel
theorem dX6_dropOldest_16 : decode cX6_dropOldest 16 = .ok (.iload_n 3, 1) := by decide +kernel
theorem dX6_dropOldest_17 : decode cX6_dropOldest 17 = .ok (.iload_n 2, 1) := by decide +kernel
theorem dX6_dropOldest_18 : decode cX6_dropOldest 18 = .ok (.if_icmp .ge 23, 3) := by decide +kernel
theorem dX6_dropOldest_21 : decode cX6_dropOldest 21 = .ok (.aload_n 0, 1) := by decide +kernel
theorem dX6_dropOldest_22 : decode cX6_dropOldest 22 = .ok (.getfield 19, 3) := by decide +kernel
theorem dX6_dropOldest_25 : decode cX6_dropOldest 25 = .ok (.iload_n 3, 1) := by decide +kernel
theorem dX6_dropOldest_26 : decode cX6_dropOldest 26 = .ok (.aload_n 0, 1) := by decide +kernel
theorem dX6_dropOldest_27 : decode cX6_dropOldest 27 = .ok (.getfield 19, 3) := by decide +kernel
theorem dX6_dropOldest_30 : decode cX6_dropOldest 30 = .ok (.iload_n 3, 1) := by decide +kernel
theorem dX6_dropOldest_31 : decode cX6_dropOldest 31 = .ok (.iconst 1, 1) := by decide +kernel
theorem dX6_dropOldest_32 : decode cX6_dropOldest 32 = .ok (.iadd, 1) := by decide +kernel
theorem dX6_dropOldest_33 : decode cX6_dropOldest 33 = .ok (.aaload, 1) := by decide +kernel
theorem dX6_dropOldest_34 : decode cX6_dropOldest 34 = .ok (.aastore, 1) := by decide +kernel
theorem dX6_dropOldest_35 : decode cX6_dropOldest 35 = .ok (.iinc 3 1, 3) := by decide +kernel
theorem dX6_dropOldest_38 : decode cX6_dropOldest 38 = .ok (.goto (-22), 3) := by decide +kernel
theorem dX6_dropOldest_41 : decode cX6_dropOldest 41 = .ok (.iload_n 2, 1) := by decide +kernel
theorem dX6_dropOldest_42 : decode cX6_dropOldest 42 = .ok (.ifCond .lt 15, 3) := by decide +kernel
theorem dX6_dropOldest_45 : decode cX6_dropOldest 45 = .ok (.aload_n 0, 1) := by decide +kernel
theorem dX6_dropOldest_46 : decode cX6_dropOldest 46 = .ok (.getfield 19, 3) := by decide +kernel
theorem dX6_dropOldest_49 : decode cX6_dropOldest 49 = .ok (.iload_n 2, 1) := by decide +kernel
theorem dX6_dropOldest_50 : decode cX6_dropOldest 50 = .ok (.aload_n 1, 1) := by decide +kernel
theorem dX6_dropOldest_51 : decode cX6_dropOldest 51 = .ok (.aastore, 1) := by decide +kernel
theorem dX6_dropOldest_52 : decode cX6_dropOldest 52 = .ok (.aload_n 0, 1) := by decide +kernel
theorem dX6_dropOldest_53 : decode cX6_dropOldest 53 = .ok (.iload_n 2, 1) := by decide +kernel
theorem dX6_dropOldest_54 : decode cX6_dropOldest 54 = .ok (.putfield 212, 3) := by decide +kernel
theorem dX6_dropOldest_57 : decode cX6_dropOldest 57 = .ok (.return_, 1) := by decide +kernel
theorem dX6_pastAt_0 : decode cX6_pastAt 0 = .ok (.iload_n 1, 1) := by decide +kernel
theorem dX6_pastAt_1 : decode cX6_pastAt 1 = .ok (.ifCond .lt 21, 3) := by decide +kernel
theorem dX6_pastAt_4 : decode cX6_pastAt 4 = .ok (.iload_n 1, 1) := by decide +kernel
theorem dX6_pastAt_5 : decode cX6_pastAt 5 = .ok (.aload_n 0, 1) := by decide +kernel
theorem dX6_pastAt_6 : decode cX6_pastAt 6 = .ok (.getfield 19, 3) := by decide +kernel
theorem dX6_pastAt_9 : decode cX6_pastAt 9 = .ok (.arraylength, 1) := by decide +kernel
theorem dX6_pastAt_10 : decode cX6_pastAt 10 = .ok (.if_icmp .ge 12, 3) := by decide +kernel
theorem dX6_pastAt_13 : decode cX6_pastAt 13 = .ok (.aload_n 0, 1) := by decide +kernel
theorem dX6_pastAt_14 : decode cX6_pastAt 14 = .ok (.getfield 19, 3) := by decide +kernel
theorem dX6_pastAt_17 : decode cX6_pastAt 17 = .ok (.iload_n 1, 1) := by decide +kernel
theorem dX6_pastAt_18 : decode cX6_pastAt 18 = .ok (.aaload, 1) := by decide +kernel
theorem dX6_pastAt_19 : decode cX6_pastAt 19 = .ok (.goto 4, 3) := by decide +kernel
theorem dX6_pastAt_22 : decode cX6_pastAt 22 = .ok (.aconst_null, 1) := by decide +kernel
theorem dX6_pastAt_23 : decode cX6_pastAt 23 = .ok (.areturn, 1) := by decide +kernel
theorem dX6_numberOf_0 : decode cX6_numberOf 0 = .ok (.iload_n 1, 1) := by decide +kernel
theorem dX6_numberOf_1 : decode cX6_numberOf 1 = .ok (.tableswitch 147 0 10 #[59, 67, 75, 83, 91, 99, 107, 115, 123, 131, 139], 59) := by decide +kernel
theorem dX6_numberOf_60 : decode cX6_numberOf 60 = .ok (.aload_n 0, 1) := by decide +kernel
theorem dX6_numberOf_61 : decode cX6_numberOf 61 = .ok (.getfield 10, 3) := by decide +kernel
theorem dX6_numberOf_64 : decode cX6_numberOf 64 = .ok (.getfield 154, 3) := by decide +kernel
theorem dX6_numberOf_67 : decode cX6_numberOf 67 = .ok (.ireturn, 1) := by decide +kernel
theorem dX6_numberOf_68 : decode cX6_numberOf 68 = .ok (.aload_n 0, 1) := by decide +kernel
theorem dX6_numberOf_69 : decode cX6_numberOf 69 = .ok (.getfield 10, 3) := by decide +kernel
theorem dX6_numberOf_72 : decode cX6_numberOf 72 = .ok (.getfield 113, 3) := by decide +kernel
theorem dX6_numberOf_75 : decode cX6_numberOf 75 = .ok (.ireturn, 1) := by decide +kernel
theorem dX6_numberOf_76 : decode cX6_numberOf 76 = .ok (.aload_n 0, 1) := by decide +kernel
theorem dX6_numberOf_77 : decode cX6_numberOf 77 = .ok (.getfield 10, 3) := by decide +kernel
theorem dX6_numberOf_80 : decode cX6_numberOf 80 = .ok (.invokevirtual 300, 3) := by decide +kernel
theorem dX6_numberOf_83 : decode cX6_numberOf 83 = .ok (.ireturn, 1) := by decide +kernel
theorem dX6_numberOf_84 : decode cX6_numberOf 84 = .ok (.aload_n 0, 1) := by decide +kernel
theorem dX6_numberOf_85 : decode cX6_numberOf 85 = .ok (.getfield 10, 3) := by decide +kernel
theorem dX6_numberOf_88 : decode cX6_numberOf 88 = .ok (.invokevirtual 303, 3) := by decide +kernel
theorem dX6_numberOf_91 : decode cX6_numberOf 91 = .ok (.ireturn, 1) := by decide +kernel
theorem dX6_numberOf_92 : decode cX6_numberOf 92 = .ok (.aload_n 0, 1) := by decide +kernel
theorem dX6_numberOf_93 : decode cX6_numberOf 93 = .ok (.getfield 10, 3) := by decide +kernel
theorem dX6_numberOf_96 : decode cX6_numberOf 96 = .ok (.invokevirtual 159, 3) := by decide +kernel
theorem dX6_numberOf_99 : decode cX6_numberOf 99 = .ok (.ireturn, 1) := by decide +kernel
theorem dX6_numberOf_100 : decode cX6_numberOf 100 = .ok (.aload_n 0, 1) := by decide +kernel
theorem dX6_numberOf_101 : decode cX6_numberOf 101 = .ok (.getfield 10, 3) := by decide +kernel
theorem dX6_numberOf_104 : decode cX6_numberOf 104 = .ok (.invokevirtual 306, 3) := by decide +kernel
theorem dX6_numberOf_107 : decode cX6_numberOf 107 = .ok (.ireturn, 1) := by decide +kernel
theorem dX6_numberOf_108 : decode cX6_numberOf 108 = .ok (.aload_n 0, 1) := by decide +kernel
theorem dX6_numberOf_109 : decode cX6_numberOf 109 = .ok (.getfield 10, 3) := by decide +kernel
theorem dX6_numberOf_112 : decode cX6_numberOf 112 = .ok (.getfield 309, 3) := by decide +kernel
theorem dX6_numberOf_115 : decode cX6_numberOf 115 = .ok (.ireturn, 1) := by decide +kernel
theorem dX6_numberOf_116 : decode cX6_numberOf 116 = .ok (.aload_n 0, 1) := by decide +kernel
theorem dX6_numberOf_117 : decode cX6_numberOf 117 = .ok (.getfield 10, 3) := by decide +kernel
theorem dX6_numberOf_120 : decode cX6_numberOf 120 = .ok (.getfield 310, 3) := by decide +kernel
theorem dX6_numberOf_123 : decode cX6_numberOf 123 = .ok (.ireturn, 1) := by decide +kernel
theorem dX6_numberOf_124 : decode cX6_numberOf 124 = .ok (.aload_n 0, 1) := by decide +kernel
theorem dX6_numberOf_125 : decode cX6_numberOf 125 = .ok (.getfield 10, 3) := by decide +kernel
theorem dX6_numberOf_128 : decode cX6_numberOf 128 = .ok (.getfield 313, 3) := by decide +kernel
theorem dX6_numberOf_131 : decode cX6_numberOf 131 = .ok (.ireturn, 1) := by decide +kernel
theorem dX6_numberOf_132 : decode cX6_numberOf 132 = .ok (.aload_n 0, 1) := by decide +kernel
theorem dX6_numberOf_133 : decode cX6_numberOf 133 = .ok (.getfield 10, 3) := by decide +kernel
theorem dX6_numberOf_136 : decode cX6_numberOf 136 = .ok (.getfield 316, 3) := by decide +kernel
theorem dX6_numberOf_139 : decode cX6_numberOf 139 = .ok (.ireturn, 1) := by decide +kernel
theorem dX6_numberOf_140 : decode cX6_numberOf 140 = .ok (.aload_n 0, 1) := by decide +kernel
theorem dX6_numberOf_141 : decode cX6_numberOf 141 = .ok (.getfield 10, 3) := by decide +kernel
theorem dX6_numberOf_144 : decode cX6_numberOf 144 = .ok (.invokevirtual 97, 3) := by decide +kernel
theorem dX6_numberOf_147 : decode cX6_numberOf 147 = .ok (.ireturn, 1) := by decide +kernel
theorem dX6_numberOf_148 : decode cX6_numberOf 148 = .ok (.aload_n 0, 1) := by decide +kernel
theorem dX6_numberOf_149 : decode cX6_numberOf 149 = .ok (.getfield 212, 3) := by decide +kernel
theorem dX6_numberOf_152 : decode cX6_numberOf 152 = .ok (.ireturn, 1) := by decide +kernel
theorem dX6_foresee_0 : decode cX6_foresee 0 = .ok (.aload_n 0, 1) := by decide +kernel
theorem dX6_foresee_1 : decode cX6_foresee 1 = .ok (.getfield 16, 3) := by decide +kernel
theorem dX6_foresee_4 : decode cX6_foresee 4 = .ok (.aload_n 0, 1) := by decide +kernel
theorem dX6_foresee_5 : decode cX6_foresee 5 = .ok (.getfield 10, 3) := by decide +kernel
theorem dX6_foresee_8 : decode cX6_foresee 8 = .ok (.invokevirtual 221, 3) := by decide +kernel
theorem dX6_foresee_11 : decode cX6_foresee 11 = .ok (.aload_n 0, 1) := by decide +kernel
theorem dX6_foresee_12 : decode cX6_foresee 12 = .ok (.getfield 16, 3) := by decide +kernel
theorem dX6_foresee_15 : decode cX6_foresee 15 = .ok (.iload_n 1, 1) := by decide +kernel
theorem dX6_foresee_16 : decode cX6_foresee 16 = .ok (.invokevirtual 162, 3) := by decide +kernel
theorem dX6_foresee_19 : decode cX6_foresee 19 = .ok (.return_, 1) := by decide +kernel
theorem dX6_foreseen_0 : decode cX6_foreseen 0 = .ok (.iload_n 1, 1) := by decide +kernel
theorem dX6_foreseen_1 : decode cX6_foreseen 1 = .ok (.tableswitch 87 0 3 #[31, 47, 63, 71], 31) := by decide +kernel
theorem dX6_foreseen_32 : decode cX6_foreseen 32 = .ok (.aload_n 0, 1) := by decide +kernel
theorem dX6_foreseen_33 : decode cX6_foreseen 33 = .ok (.getfield 16, 3) := by decide +kernel
theorem dX6_foreseen_36 : decode cX6_foreseen 36 = .ok (.invokevirtual 159, 3) := by decide +kernel
theorem dX6_foreseen_39 : decode cX6_foreseen 39 = .ok (.aload_n 0, 1) := by decide +kernel
theorem dX6_foreseen_40 : decode cX6_foreseen 40 = .ok (.getfield 10, 3) := by decide +kernel
theorem dX6_foreseen_43 : decode cX6_foreseen 43 = .ok (.invokevirtual 159, 3) := by decide +kernel
theorem dX6_foreseen_46 : decode cX6_foreseen 46 = .ok (.isub, 1) := by decide +kernel
theorem dX6_foreseen_47 : decode cX6_foreseen 47 = .ok (.ireturn, 1) := by decide +kernel
theorem dX6_foreseen_48 : decode cX6_foreseen 48 = .ok (.aload_n 0, 1) := by decide +kernel
theorem dX6_foreseen_49 : decode cX6_foreseen 49 = .ok (.getfield 16, 3) := by decide +kernel
theorem dX6_foreseen_52 : decode cX6_foreseen 52 = .ok (.invokevirtual 306, 3) := by decide +kernel
theorem dX6_foreseen_55 : decode cX6_foreseen 55 = .ok (.aload_n 0, 1) := by decide +kernel
theorem dX6_foreseen_56 : decode cX6_foreseen 56 = .ok (.getfield 10, 3) := by decide +kernel
theorem dX6_foreseen_59 : decode cX6_foreseen 59 = .ok (.invokevirtual 306, 3) := by decide +kernel
theorem dX6_foreseen_62 : decode cX6_foreseen 62 = .ok (.isub, 1) := by decide +kernel
theorem dX6_foreseen_63 : decode cX6_foreseen 63 = .ok (.ireturn, 1) := by decide +kernel
theorem dX6_foreseen_64 : decode cX6_foreseen 64 = .ok (.aload_n 0, 1) := by decide +kernel
theorem dX6_foreseen_65 : decode cX6_foreseen 65 = .ok (.getfield 16, 3) := by decide +kernel
theorem dX6_foreseen_68 : decode cX6_foreseen 68 = .ok (.getfield 113, 3) := by decide +kernel
theorem dX6_foreseen_71 : decode cX6_foreseen 71 = .ok (.ireturn, 1) := by decide +kernel
theorem dX6_foreseen_72 : decode cX6_foreseen 72 = .ok (.aload_n 0, 1) := by decide +kernel
theorem dX6_foreseen_73 : decode cX6_foreseen 73 = .ok (.getfield 16, 3) := by decide +kernel
theorem dX6_foreseen_76 : decode cX6_foreseen 76 = .ok (.getfield 316, 3) := by decide +kernel
theorem dX6_foreseen_79 : decode cX6_foreseen 79 = .ok (.aload_n 0, 1) := by decide +kernel
theorem dX6_foreseen_80 : decode cX6_foreseen 80 = .ok (.getfield 10, 3) := by decide +kernel
theorem dX6_foreseen_83 : decode cX6_foreseen 83 = .ok (.getfield 316, 3) := by decide +kernel
theorem dX6_foreseen_86 : decode cX6_foreseen 86 = .ok (.isub, 1) := by decide +kernel
theorem dX6_foreseen_87 : decode cX6_foreseen 87 = .ok (.ireturn, 1) := by decide +kernel
theorem dX6_foreseen_88 : decode cX6_foreseen 88 = .ok (.aload_n 0, 1) := by decide +kernel
theorem dX6_foreseen_89 : decode cX6_foreseen 89 = .ok (.getfield 16, 3) := by decide +kernel
theorem dX6_foreseen_92 : decode cX6_foreseen 92 = .ok (.getfield 309, 3) := by decide +kernel
theorem dX6_foreseen_95 : decode cX6_foreseen 95 = .ok (.aload_n 0, 1) := by decide +kernel
theorem dX6_foreseen_96 : decode cX6_foreseen 96 = .ok (.getfield 10, 3) := by decide +kernel
theorem dX6_foreseen_99 : decode cX6_foreseen 99 = .ok (.getfield 309, 3) := by decide +kernel
theorem dX6_foreseen_102 : decode cX6_foreseen 102 = .ok (.isub, 1) := by decide +kernel
theorem dX6_foreseen_103 : decode cX6_foreseen 103 = .ok (.ireturn, 1) := by decide +kernel
theorem dX6_goneBehind_0 : decode cX6_goneBehind 0 = .ok (.aload_n 0, 1) := by decide +kernel
theorem dX6_goneBehind_1 : decode cX6_goneBehind 1 = .ok (.getfield 16, 3) := by decide +kernel
theorem dX6_goneBehind_4 : decode cX6_goneBehind 4 = .ok (.aload_n 0, 1) := by decide +kernel
theorem dX6_goneBehind_5 : decode cX6_goneBehind 5 = .ok (.getfield 10, 3) := by decide +kernel
theorem dX6_goneBehind_8 : decode cX6_goneBehind 8 = .ok (.invokevirtual 221, 3) := by decide +kernel
theorem dX6_goneBehind_11 : decode cX6_goneBehind 11 = .ok (.aload_n 0, 1) := by decide +kernel
theorem dX6_goneBehind_12 : decode cX6_goneBehind 12 = .ok (.iload_n 1, 1) := by decide +kernel
theorem dX6_goneBehind_13 : decode cX6_goneBehind 13 = .ok (.invokevirtual 319, 3) := by decide +kernel
theorem dX6_goneBehind_16 : decode cX6_goneBehind 16 = .ok (.ireturn, 1) := by decide +kernel
theorem dX6_gainByHaste_0 : decode cX6_gainByHaste 0 = .ok (.aload_n 0, 1) := by decide +kernel
theorem dX6_gainByHaste_1 : decode cX6_gainByHaste 1 = .ok (.getfield 16, 3) := by decide +kernel
theorem dX6_gainByHaste_4 : decode cX6_gainByHaste 4 = .ok (.aload_n 0, 1) := by decide +kernel
theorem dX6_gainByHaste_5 : decode cX6_gainByHaste 5 = .ok (.getfield 10, 3) := by decide +kernel
theorem dX6_gainByHaste_8 : decode cX6_gainByHaste 8 = .ok (.invokevirtual 221, 3) := by decide +kernel
theorem dX6_gainByHaste_11 : decode cX6_gainByHaste 11 = .ok (.aload_n 0, 1) := by decide +kernel
theorem dX6_gainByHaste_12 : decode cX6_gainByHaste 12 = .ok (.getfield 16, 3) := by decide +kernel
theorem dX6_gainByHaste_15 : decode cX6_gainByHaste 15 = .ok (.iload_n 1, 1) := by decide +kernel
theorem dX6_gainByHaste_16 : decode cX6_gainByHaste 16 = .ok (.invokevirtual 122, 3) := by decide +kernel
theorem dX6_gainByHaste_19 : decode cX6_gainByHaste 19 = .ok (.istore_n 3, 1) := by decide +kernel
theorem dX6_gainByHaste_20 : decode cX6_gainByHaste 20 = .ok (.aload_n 0, 1) := by decide +kernel
theorem dX6_gainByHaste_21 : decode cX6_gainByHaste 21 = .ok (.getfield 16, 3) := by decide +kernel
theorem dX6_gainByHaste_24 : decode cX6_gainByHaste 24 = .ok (.iload_n 3, 1) := by decide +kernel
theorem dX6_gainByHaste_25 : decode cX6_gainByHaste 25 = .ok (.iconst 1, 1) := by decide +kernel
theorem dX6_gainByHaste_26 : decode cX6_gainByHaste 26 = .ok (.invokevirtual 131, 3) := by decide +kernel
theorem dX6_gainByHaste_29 : decode cX6_gainByHaste 29 = .ok (.iload_n 3, 1) := by decide +kernel
theorem dX6_gainByHaste_30 : decode cX6_gainByHaste 30 = .ok (.if_icmp .ne 5, 3) := by decide +kernel
theorem dX6_gainByHaste_33 : decode cX6_gainByHaste 33 = .ok (.iconst 0, 1) := by decide +kernel
theorem dX6_gainByHaste_34 : decode cX6_gainByHaste 34 = .ok (.ireturn, 1) := by decide +kernel
theorem dX6_gainByHaste_35 : decode cX6_gainByHaste 35 = .ok (.aload_n 0, 1) := by decide +kernel
theorem dX6_gainByHaste_36 : decode cX6_gainByHaste 36 = .ok (.iload_n 1, 1) := by decide +kernel
theorem dX6_gainByHaste_37 : decode cX6_gainByHaste 37 = .ok (.invokevirtual 319, 3) := by decide +kernel
theorem dX6_gainByHaste_40 : decode cX6_gainByHaste 40 = .ok (.istore 4, 2) := by decide +kernel
theorem dX6_gainByHaste_42 : decode cX6_gainByHaste 42 = .ok (.iload_n 2, 1) := by decide +kernel
theorem dX6_gainByHaste_43 : decode cX6_gainByHaste 43 = .ok (.iconst (-1), 1) := by decide +kernel
theorem dX6_gainByHaste_44 : decode cX6_gainByHaste 44 = .ok (.if_icmp .ne 17, 3) := by decide +kernel
theorem dX6_gainByHaste_47 : decode cX6_gainByHaste 47 = .ok (.iload 4, 2) := by decide +kernel
theorem dX6_gainByHaste_49 : decode cX6_gainByHaste 49 = .ok (.iconst (-1), 1) := by decide +kernel
theorem dX6_gainByHaste_50 : decode cX6_gainByHaste 50 = .ok (.if_icmp .ne 7, 3) := by decide +kernel
theorem dX6_gainByHaste_53 : decode cX6_gainByHaste 53 = .ok (.iconst 0, 1) := by decide +kernel
theorem dX6_gainByHaste_54 : decode cX6_gainByHaste 54 = .ok (.goto 6, 3) := by decide +kernel
theorem dX6_gainByHaste_57 : decode cX6_gainByHaste 57 = .ok (.sipush 999, 3) := by decide +kernel
theorem dX6_gainByHaste_60 : decode cX6_gainByHaste 60 = .ok (.ireturn, 1) := by decide +kernel
theorem dX6_gainByHaste_61 : decode cX6_gainByHaste 61 = .ok (.iload 4, 2) := by decide +kernel
theorem dX6_gainByHaste_63 : decode cX6_gainByHaste 63 = .ok (.iconst (-1), 1) := by decide +kernel
theorem dX6_gainByHaste_64 : decode cX6_gainByHaste 64 = .ok (.if_icmp .ne 9, 3) := by decide +kernel
theorem dX6_gainByHaste_67 : decode cX6_gainByHaste 67 = .ok (.sipush (-999), 3) := by decide +kernel
theorem dX6_gainByHaste_70 : decode cX6_gainByHaste 70 = .ok (.goto 7, 3) := by decide +kernel
theorem dX6_gainByHaste_73 : decode cX6_gainByHaste 73 = .ok (.iload_n 2, 1) := by decide +kernel
theorem dX6_gainByHaste_74 : decode cX6_gainByHaste 74 = .ok (.iload 4, 2) := by decide +kernel
theorem dX6_gainByHaste_76 : decode cX6_gainByHaste 76 = .ok (.isub, 1) := by decide +kernel
theorem dX6_gainByHaste_77 : decode cX6_gainByHaste 77 = .ok (.ireturn, 1) := by decide +kernel
theorem dX6_passUntilGone_0 : decode cX6_passUntilGone 0 = .ok (.iconst 1, 1) := by decide +kernel
theorem dX6_passUntilGone_1 : decode cX6_passUntilGone 1 = .ok (.istore_n 2, 1) := by decide +kernel
theorem dX6_passUntilGone_2 : decode cX6_passUntilGone 2 = .ok (.iload_n 2, 1) := by decide +kernel
theorem dX6_passUntilGone_3 : decode cX6_passUntilGone 3 = .ok (.sipush 240, 3) := by decide +kernel
theorem dX6_passUntilGone_6 : decode cX6_passUntilGone 6 = .ok (.if_icmp .gt 30, 3) := by decide +kernel
theorem dX6_passUntilGone_9 : decode cX6_passUntilGone 9 = .ok (.aload_n 0, 1) := by decide +kernel
theorem dX6_passUntilGone_10 : decode cX6_passUntilGone 10 = .ok (.getfield 16, 3) := by decide +kernel
theorem dX6_passUntilGone_13 : decode cX6_passUntilGone 13 = .ok (.invokevirtual 322, 3) := by decide +kernel
theorem dX6_passUntilGone_16 : decode cX6_passUntilGone 16 = .ok (.aload_n 0, 1) := by decide +kernel
theorem dX6_passUntilGone_17 : decode cX6_passUntilGone 17 = .ok (.getfield 16, 3) := by decide +kernel
theorem dX6_passUntilGone_20 : decode cX6_passUntilGone 20 = .ok (.iload_n 1, 1) := by decide +kernel
theorem dX6_passUntilGone_21 : decode cX6_passUntilGone 21 = .ok (.invokevirtual 122, 3) := by decide +kernel
theorem dX6_passUntilGone_24 : decode cX6_passUntilGone 24 = .ok (.iconst (-1), 1) := by decide +kernel
theorem dX6_passUntilGone_25 : decode cX6_passUntilGone 25 = .ok (.if_icmp .ne 5, 3) := by decide +kernel
theorem dX6_passUntilGone_28 : decode cX6_passUntilGone 28 = .ok (.iload_n 2, 1) := by decide +kernel
theorem dX6_passUntilGone_29 : decode cX6_passUntilGone 29 = .ok (.ireturn, 1) := by decide +kernel
theorem dX6_passUntilGone_30 : decode cX6_passUntilGone 30 = .ok (.iinc 2 1, 3) := by decide +kernel
theorem dX6_passUntilGone_33 : decode cX6_passUntilGone 33 = .ok (.goto (-31), 3) := by decide +kernel
theorem dX6_passUntilGone_36 : decode cX6_passUntilGone 36 = .ok (.iconst (-1), 1) := by decide +kernel
theorem dX6_passUntilGone_37 : decode cX6_passUntilGone 37 = .ok (.ireturn, 1) := by decide +kernel
theorem dX6_bestNumberOfReheats_0 : decode cX6_bestNumberOfReheats 0 = .ok (.iconst 0, 1) := by decide +kernel
theorem dX6_bestNumberOfReheats_1 : decode cX6_bestNumberOfReheats 1 = .ok (.istore_n 2, 1) := by decide +kernel
theorem dX6_bestNumberOfReheats_2 : decode cX6_bestNumberOfReheats 2 = .ok (.iconst (-1), 1) := by decide +kernel
theorem dX6_bestNumberOfReheats_3 : decode cX6_bestNumberOfReheats 3 = .ok (.istore_n 3, 1) := by decide +kernel
theorem dX6_bestNumberOfReheats_4 : decode cX6_bestNumberOfReheats 4 = .ok (.iconst 0, 1) := by decide +kernel
theorem dX6_bestNumberOfReheats_5 : decode cX6_bestNumberOfReheats 5 = .ok (.istore 4, 2) := by decide +kernel
theorem dX6_bestNumberOfReheats_7 : decode cX6_bestNumberOfReheats 7 = .ok (.iconst 0, 1) := by decide +kernel
theorem dX6_bestNumberOfReheats_8 : decode cX6_bestNumberOfReheats 8 = .ok (.istore 5, 2) := by decide +kernel
theorem dX6_bestNumberOfReheats_10 : decode cX6_bestNumberOfReheats 10 = .ok (.iload 5, 2) := by decide +kernel
theorem dX6_bestNumberOfReheats_12 : decode cX6_bestNumberOfReheats 12 = .ok (.iconst 3, 1) := by decide +kernel
theorem dX6_bestNumberOfReheats_13 : decode cX6_bestNumberOfReheats 13 = .ok (.if_icmp .gt 84, 3) := by decide +kernel
theorem dX6_bestNumberOfReheats_16 : decode cX6_bestNumberOfReheats 16 = .ok (.aload_n 0, 1) := by decide +kernel
theorem dX6_bestNumberOfReheats_17 : decode cX6_bestNumberOfReheats 17 = .ok (.getfield 16, 3) := by decide +kernel
theorem dX6_bestNumberOfReheats_20 : decode cX6_bestNumberOfReheats 20 = .ok (.aload_n 0, 1) := by decide +kernel
theorem dX6_bestNumberOfReheats_21 : decode cX6_bestNumberOfReheats 21 = .ok (.getfield 10, 3) := by decide +kernel
theorem dX6_bestNumberOfReheats_24 : decode cX6_bestNumberOfReheats 24 = .ok (.invokevirtual 221, 3) := by decide +kernel
theorem dX6_bestNumberOfReheats_27 : decode cX6_bestNumberOfReheats 27 = .ok (.aload_n 0, 1) := by decide +kernel
theorem dX6_bestNumberOfReheats_28 : decode cX6_bestNumberOfReheats 28 = .ok (.getfield 16, 3) := by decide +kernel
theorem dX6_bestNumberOfReheats_31 : decode cX6_bestNumberOfReheats 31 = .ok (.iload 5, 2) := by decide +kernel
theorem dX6_bestNumberOfReheats_33 : decode cX6_bestNumberOfReheats 33 = .ok (.putfield 325, 3) := by decide +kernel
theorem dX6_bestNumberOfReheats_36 : decode cX6_bestNumberOfReheats 36 = .ok (.aload_n 0, 1) := by decide +kernel
theorem dX6_bestNumberOfReheats_37 : decode cX6_bestNumberOfReheats 37 = .ok (.getfield 16, 3) := by decide +kernel
theorem dX6_bestNumberOfReheats_40 : decode cX6_bestNumberOfReheats 40 = .ok (.iload_n 1, 1) := by decide +kernel
theorem dX6_bestNumberOfReheats_41 : decode cX6_bestNumberOfReheats 41 = .ok (.invokevirtual 162, 3) := by decide +kernel
theorem dX6_bestNumberOfReheats_44 : decode cX6_bestNumberOfReheats 44 = .ok (.aload_n 0, 1) := by decide +kernel
theorem dX6_bestNumberOfReheats_45 : decode cX6_bestNumberOfReheats 45 = .ok (.getfield 16, 3) := by decide +kernel
theorem dX6_bestNumberOfReheats_48 : decode cX6_bestNumberOfReheats 48 = .ok (.invokevirtual 159, 3) := by decide +kernel
theorem dX6_bestNumberOfReheats_51 : decode cX6_bestNumberOfReheats 51 = .ok (.istore 6, 2) := by decide +kernel
theorem dX6_bestNumberOfReheats_53 : decode cX6_bestNumberOfReheats 53 = .ok (.aload_n 0, 1) := by decide +kernel
theorem dX6_bestNumberOfReheats_54 : decode cX6_bestNumberOfReheats 54 = .ok (.getfield 16, 3) := by decide +kernel
theorem dX6_bestNumberOfReheats_57 : decode cX6_bestNumberOfReheats 57 = .ok (.invokevirtual 306, 3) := by decide +kernel
theorem dX6_bestNumberOfReheats_60 : decode cX6_bestNumberOfReheats 60 = .ok (.istore 7, 2) := by decide +kernel
theorem dX6_bestNumberOfReheats_62 : decode cX6_bestNumberOfReheats 62 = .ok (.iload 6, 2) := by decide +kernel
theorem dX6_bestNumberOfReheats_64 : decode cX6_bestNumberOfReheats 64 = .ok (.iload_n 3, 1) := by decide +kernel
theorem dX6_bestNumberOfReheats_65 : decode cX6_bestNumberOfReheats 65 = .ok (.if_icmp .gt 16, 3) := by decide +kernel
theorem dX6_bestNumberOfReheats_68 : decode cX6_bestNumberOfReheats 68 = .ok (.iload 6, 2) := by decide +kernel
theorem dX6_bestNumberOfReheats_70 : decode cX6_bestNumberOfReheats 70 = .ok (.iload_n 3, 1) := by decide +kernel
theorem dX6_bestNumberOfReheats_71 : decode cX6_bestNumberOfReheats 71 = .ok (.if_icmp .ne 20, 3) := by decide +kernel
theorem dX6_bestNumberOfReheats_74 : decode cX6_bestNumberOfReheats 74 = .ok (.iload 7, 2) := by decide +kernel
theorem dX6_bestNumberOfReheats_76 : decode cX6_bestNumberOfReheats 76 = .ok (.iload 4, 2) := by decide +kernel
theorem dX6_bestNumberOfReheats_78 : decode cX6_bestNumberOfReheats 78 = .ok (.if_icmp .ge 13, 3) := by decide +kernel
theorem dX6_bestNumberOfReheats_81 : decode cX6_bestNumberOfReheats 81 = .ok (.iload 5, 2) := by decide +kernel
theorem dX6_bestNumberOfReheats_83 : decode cX6_bestNumberOfReheats 83 = .ok (.istore_n 2, 1) := by decide +kernel
theorem dX6_bestNumberOfReheats_84 : decode cX6_bestNumberOfReheats 84 = .ok (.iload 6, 2) := by decide +kernel
theorem dX6_bestNumberOfReheats_86 : decode cX6_bestNumberOfReheats 86 = .ok (.istore_n 3, 1) := by decide +kernel
theorem dX6_bestNumberOfReheats_87 : decode cX6_bestNumberOfReheats 87 = .ok (.iload 7, 2) := by decide +kernel
theorem dX6_bestNumberOfReheats_89 : decode cX6_bestNumberOfReheats 89 = .ok (.istore 4, 2) := by decide +kernel
theorem dX6_bestNumberOfReheats_91 : decode cX6_bestNumberOfReheats 91 = .ok (.iinc 5 1, 3) := by decide +kernel
theorem dX6_bestNumberOfReheats_94 : decode cX6_bestNumberOfReheats 94 = .ok (.goto (-84), 3) := by decide +kernel
theorem dX6_bestNumberOfReheats_97 : decode cX6_bestNumberOfReheats 97 = .ok (.iload_n 2, 1) := by decide +kernel
theorem dX6_bestNumberOfReheats_98 : decode cX6_bestNumberOfReheats 98 = .ok (.ireturn, 1) := by decide +kernel
theorem dX6_shareMade_0 : decode cX6_shareMade 0 = .ok (.aload_n 0, 1) := by decide +kernel
theorem dX6_shareMade_1 : decode cX6_shareMade 1 = .ok (.getfield 10, 3) := by decide +kernel
theorem dX6_shareMade_4 : decode cX6_shareMade 4 = .ok (.invokevirtual 159, 3) := by decide +kernel
theorem dX6_shareMade_7 : decode cX6_shareMade 7 = .ok (.istore_n 1, 1) := by decide +kernel
theorem dX6_shareMade_8 : decode cX6_shareMade 8 = .ok (.iload_n 1, 1) := by decide +kernel
theorem dX6_shareMade_9 : decode cX6_shareMade 9 = .ok (.aload_n 0, 1) := by decide +kernel
theorem dX6_shareMade_10 : decode cX6_shareMade 10 = .ok (.getfield 10, 3) := by decide +kernel
theorem dX6_shareMade_13 : decode cX6_shareMade 13 = .ok (.invokevirtual 306, 3) := by decide +kernel
theorem dX6_shareMade_16 : decode cX6_shareMade 16 = .ok (.iadd, 1) := by decide +kernel
theorem dX6_shareMade_17 : decode cX6_shareMade 17 = .ok (.istore_n 2, 1) := by decide +kernel
theorem dX6_shareMade_18 : decode cX6_shareMade 18 = .ok (.iload_n 2, 1) := by decide +kernel
theorem dX6_shareMade_19 : decode cX6_shareMade 19 = .ok (.ifCond .ne 7, 3) := by decide +kernel
theorem dX6_shareMade_22 : decode cX6_shareMade 22 = .ok (.dconst 1, 1) := by decide +kernel
theorem dX6_shareMade_23 : decode cX6_shareMade 23 = .ok (.goto 8, 3) := by decide +kernel
theorem dX6_shareMade_26 : decode cX6_shareMade 26 = .ok (.iload_n 1, 1) := by decide +kernel
theorem dX6_shareMade_27 : decode cX6_shareMade 27 = .ok (.i2d, 1) := by decide +kernel
theorem dX6_shareMade_28 : decode cX6_shareMade 28 = .ok (.iload_n 2, 1) := by decide +kernel
theorem dX6_shareMade_29 : decode cX6_shareMade 29 = .ok (.i2d, 1) := by decide +kernel
theorem dX6_shareMade_30 : decode cX6_shareMade 30 = .ok (.ddiv, 1) := by decide +kernel
theorem dX6_shareMade_31 : decode cX6_shareMade 31 = .ok (.dreturn, 1) := by decide +kernel
theorem dX6_bitsOf_0 : decode cX6_bitsOf 0 = .ok (.dload_n 0, 1) := by decide +kernel
theorem dX6_bitsOf_1 : decode cX6_bitsOf 1 = .ok (.dconst 0, 1) := by decide +kernel
theorem dX6_bitsOf_2 : decode cX6_bitsOf 2 = .ok (.dcmp .g, 1) := by decide +kernel
theorem dX6_bitsOf_3 : decode cX6_bitsOf 3 = .ok (.ifCond .gt 5, 3) := by decide +kernel
theorem dX6_bitsOf_6 : decode cX6_bitsOf 6 = .ok (.lconst 0, 1) := by decide +kernel
theorem dX6_bitsOf_7 : decode cX6_bitsOf 7 = .ok (.lreturn, 1) := by decide +kernel
theorem dX6_bitsOf_8 : decode cX6_bitsOf 8 = .ok (.dload_n 0, 1) := by decide +kernel
theorem dX6_bitsOf_9 : decode cX6_bitsOf 9 = .ok (.dstore_n 2, 1) := by decide +kernel
theorem dX6_bitsOf_10 : decode cX6_bitsOf 10 = .ok (.ldc2_w 328, 3) := by decide +kernel
theorem dX6_bitsOf_13 : decode cX6_bitsOf 13 = .ok (.lstore 4, 2) := by decide +kernel
theorem dX6_bitsOf_15 : decode cX6_bitsOf 15 = .ok (.iconst 0, 1) := by decide +kernel
theorem dX6_bitsOf_16 : decode cX6_bitsOf 16 = .ok (.istore 6, 2) := by decide +kernel
theorem dX6_bitsOf_18 : decode cX6_bitsOf 18 = .ok (.iload 6, 2) := by decide +kernel
theorem dX6_bitsOf_20 : decode cX6_bitsOf 20 = .ok (.sipush 1022, 3) := by decide +kernel
theorem dX6_bitsOf_23 : decode cX6_bitsOf 23 = .ok (.if_icmp .ge 27, 3) := by decide +kernel
theorem dX6_bitsOf_26 : decode cX6_bitsOf 26 = .ok (.dload_n 2, 1) := by decide +kernel
theorem dX6_bitsOf_27 : decode cX6_bitsOf 27 = .ok (.dconst 1, 1) := by decide +kernel
theorem dX6_bitsOf_28 : decode cX6_bitsOf 28 = .ok (.dcmp .g, 1) := by decide +kernel
theorem dX6_bitsOf_29 : decode cX6_bitsOf 29 = .ok (.ifCond .ge 21, 3) := by decide +kernel
theorem dX6_bitsOf_32 : decode cX6_bitsOf 32 = .ok (.dload_n 2, 1) := by decide +kernel
theorem dX6_bitsOf_33 : decode cX6_bitsOf 33 = .ok (.ldc2_w 330, 3) := by decide +kernel
theorem dX6_bitsOf_36 : decode cX6_bitsOf 36 = .ok (.dmul, 1) := by decide +kernel
theorem dX6_bitsOf_37 : decode cX6_bitsOf 37 = .ok (.dstore_n 2, 1) := by decide +kernel
theorem dX6_bitsOf_38 : decode cX6_bitsOf 38 = .ok (.lload 4, 2) := by decide +kernel
theorem dX6_bitsOf_40 : decode cX6_bitsOf 40 = .ok (.lconst 1, 1) := by decide +kernel
theorem dX6_bitsOf_41 : decode cX6_bitsOf 41 = .ok (.lsub, 1) := by decide +kernel
theorem dX6_bitsOf_42 : decode cX6_bitsOf 42 = .ok (.lstore 4, 2) := by decide +kernel
theorem dX6_bitsOf_44 : decode cX6_bitsOf 44 = .ok (.iinc 6 1, 3) := by decide +kernel
theorem dX6_bitsOf_47 : decode cX6_bitsOf 47 = .ok (.goto (-29), 3) := by decide +kernel
theorem dX6_bitsOf_50 : decode cX6_bitsOf 50 = .ok (.lload 4, 2) := by decide +kernel
theorem dX6_bitsOf_52 : decode cX6_bitsOf 52 = .ok (.bipush 52, 2) := by decide +kernel
theorem dX6_bitsOf_54 : decode cX6_bitsOf 54 = .ok (.lshl, 1) := by decide +kernel
theorem dX6_bitsOf_55 : decode cX6_bitsOf 55 = .ok (.dload_n 2, 1) := by decide +kernel
theorem dX6_bitsOf_56 : decode cX6_bitsOf 56 = .ok (.dconst 1, 1) := by decide +kernel
theorem dX6_bitsOf_57 : decode cX6_bitsOf 57 = .ok (.dsub, 1) := by decide +kernel
theorem dX6_bitsOf_58 : decode cX6_bitsOf 58 = .ok (.ldc2_w 332, 3) := by decide +kernel
theorem dX6_bitsOf_61 : decode cX6_bitsOf 61 = .ok (.dmul, 1) := by decide +kernel
theorem dX6_bitsOf_62 : decode cX6_bitsOf 62 = .ok (.d2l, 1) := by decide +kernel
theorem dX6_bitsOf_63 : decode cX6_bitsOf 63 = .ok (.ladd, 1) := by decide +kernel
theorem dX6_bitsOf_64 : decode cX6_bitsOf 64 = .ok (.lreturn, 1) := by decide +kernel
theorem dX6_mix_0 : decode cX6_mix 0 = .ok (.ldc2_w 334, 3) := by decide +kernel
theorem dX6_mix_3 : decode cX6_mix 3 = .ok (.lload_n 0, 1) := by decide +kernel
theorem dX6_mix_4 : decode cX6_mix 4 = .ok (.lmul, 1) := by decide +kernel
theorem dX6_mix_5 : decode cX6_mix 5 = .ok (.lload_n 2, 1) := by decide +kernel
theorem dX6_mix_6 : decode cX6_mix 6 = .ok (.ladd, 1) := by decide +kernel
theorem dX6_mix_7 : decode cX6_mix 7 = .ok (.lreturn, 1) := by decide +kernel
theorem dX6_mixEquipment_0 : decode cX6_mixEquipment 0 = .ok (.lload_n 1, 1) := by decide +kernel
theorem dX6_mixEquipment_1 : decode cX6_mixEquipment 1 = .ok (.lstore_n 3, 1) := by decide +kernel
theorem dX6_mixEquipment_2 : decode cX6_mixEquipment 2 = .ok (.iconst 0, 1) := by decide +kernel
theorem dX6_mixEquipment_3 : decode cX6_mixEquipment 3 = .ok (.istore 5, 2) := by decide +kernel
theorem dX6_mixEquipment_5 : decode cX6_mixEquipment 5 = .ok (.iload 5, 2) := by decide +kernel
theorem dX6_mixEquipment_7 : decode cX6_mixEquipment 7 = .ok (.iconst 4, 1) := by decide +kernel
theorem dX6_mixEquipment_8 : decode cX6_mixEquipment 8 = .ok (.if_icmp .ge 24, 3) := by decide +kernel
theorem dX6_mixEquipment_11 : decode cX6_mixEquipment 11 = .ok (.lload_n 3, 1) := by decide +kernel
theorem dX6_mixEquipment_12 : decode cX6_mixEquipment 12 = .ok (.aload_n 0, 1) := by decide +kernel
theorem dX6_mixEquipment_13 : decode cX6_mixEquipment 13 = .ok (.getfield 10, 3) := by decide +kernel
theorem dX6_mixEquipment_16 : decode cX6_mixEquipment 16 = .ok (.iload 5, 2) := by decide +kernel
theorem dX6_mixEquipment_18 : decode cX6_mixEquipment 18 = .ok (.invokevirtual 145, 3) := by decide +kernel
theorem dX6_mixEquipment_21 : decode cX6_mixEquipment 21 = .ok (.i2l, 1) := by decide +kernel
theorem dX6_mixEquipment_22 : decode cX6_mixEquipment 22 = .ok (.invokestatic 276, 3) := by decide +kernel
theorem dX6_mixEquipment_25 : decode cX6_mixEquipment 25 = .ok (.lstore_n 3, 1) := by decide +kernel
theorem dX6_mixEquipment_26 : decode cX6_mixEquipment 26 = .ok (.iinc 5 1, 3) := by decide +kernel
theorem dX6_mixEquipment_29 : decode cX6_mixEquipment 29 = .ok (.goto (-24), 3) := by decide +kernel
theorem dX6_mixEquipment_32 : decode cX6_mixEquipment 32 = .ok (.iconst 0, 1) := by decide +kernel
theorem dX6_mixEquipment_33 : decode cX6_mixEquipment 33 = .ok (.istore 5, 2) := by decide +kernel
theorem dX6_mixEquipment_35 : decode cX6_mixEquipment 35 = .ok (.iload 5, 2) := by decide +kernel
theorem dX6_mixEquipment_37 : decode cX6_mixEquipment 37 = .ok (.iconst 4, 1) := by decide +kernel
theorem dX6_mixEquipment_38 : decode cX6_mixEquipment 38 = .ok (.if_icmp .ge 42, 3) := by decide +kernel
theorem dX6_mixEquipment_41 : decode cX6_mixEquipment 41 = .ok (.iconst 0, 1) := by decide +kernel
theorem dX6_mixEquipment_42 : decode cX6_mixEquipment 42 = .ok (.istore 6, 2) := by decide +kernel
theorem dX6_mixEquipment_44 : decode cX6_mixEquipment 44 = .ok (.iload 6, 2) := by decide +kernel
theorem dX6_mixEquipment_46 : decode cX6_mixEquipment 46 = .ok (.bipush 7, 2) := by decide +kernel
theorem dX6_mixEquipment_48 : decode cX6_mixEquipment 48 = .ok (.if_icmp .ge 26, 3) := by decide +kernel
theorem dX6_mixEquipment_51 : decode cX6_mixEquipment 51 = .ok (.lload_n 3, 1) := by decide +kernel
theorem dX6_mixEquipment_52 : decode cX6_mixEquipment 52 = .ok (.aload_n 0, 1) := by decide +kernel
theorem dX6_mixEquipment_53 : decode cX6_mixEquipment 53 = .ok (.getfield 10, 3) := by decide +kernel
theorem dX6_mixEquipment_56 : decode cX6_mixEquipment 56 = .ok (.iload 5, 2) := by decide +kernel
theorem dX6_mixEquipment_58 : decode cX6_mixEquipment 58 = .ok (.iload 6, 2) := by decide +kernel
theorem dX6_mixEquipment_60 : decode cX6_mixEquipment 60 = .ok (.invokevirtual 227, 3) := by decide +kernel
theorem dX6_mixEquipment_63 : decode cX6_mixEquipment 63 = .ok (.i2l, 1) := by decide +kernel
theorem dX6_mixEquipment_64 : decode cX6_mixEquipment 64 = .ok (.invokestatic 276, 3) := by decide +kernel
theorem dX6_mixEquipment_67 : decode cX6_mixEquipment 67 = .ok (.lstore_n 3, 1) := by decide +kernel
theorem dX6_mixEquipment_68 : decode cX6_mixEquipment 68 = .ok (.iinc 6 1, 3) := by decide +kernel
theorem dX6_mixEquipment_71 : decode cX6_mixEquipment 71 = .ok (.goto (-27), 3) := by decide +kernel
theorem dX6_mixEquipment_74 : decode cX6_mixEquipment 74 = .ok (.iinc 5 1, 3) := by decide +kernel
theorem dX6_mixEquipment_77 : decode cX6_mixEquipment 77 = .ok (.goto (-42), 3) := by decide +kernel
theorem dX6_mixEquipment_80 : decode cX6_mixEquipment 80 = .ok (.iconst 0, 1) := by decide +kernel
theorem dX6_mixEquipment_81 : decode cX6_mixEquipment 81 = .ok (.istore 5, 2) := by decide +kernel
theorem dX6_mixEquipment_83 : decode cX6_mixEquipment 83 = .ok (.iload 5, 2) := by decide +kernel
theorem dX6_mixEquipment_85 : decode cX6_mixEquipment 85 = .ok (.iconst 5, 1) := by decide +kernel
theorem dX6_mixEquipment_86 : decode cX6_mixEquipment 86 = .ok (.if_icmp .ge 45, 3) := by decide +kernel
theorem dX6_mixEquipment_89 : decode cX6_mixEquipment 89 = .ok (.iconst 0, 1) := by decide +kernel
theorem dX6_mixEquipment_90 : decode cX6_mixEquipment 90 = .ok (.istore 6, 2) := by decide +kernel
theorem dX6_mixEquipment_92 : decode cX6_mixEquipment 92 = .ok (.iload 6, 2) := by decide +kernel
theorem dX6_mixEquipment_94 : decode cX6_mixEquipment 94 = .ok (.bipush 6, 2) := by decide +kernel
theorem dX6_mixEquipment_96 : decode cX6_mixEquipment 96 = .ok (.if_icmp .ge 29, 3) := by decide +kernel
theorem dX6_mixEquipment_99 : decode cX6_mixEquipment 99 = .ok (.lload_n 3, 1) := by decide +kernel
theorem dX6_mixEquipment_100 : decode cX6_mixEquipment 100 = .ok (.aload_n 0, 1) := by decide +kernel
theorem dX6_mixEquipment_101 : decode cX6_mixEquipment 101 = .ok (.getfield 10, 3) := by decide +kernel
theorem dX6_mixEquipment_104 : decode cX6_mixEquipment 104 = .ok (.iload 5, 2) := by decide +kernel
theorem dX6_mixEquipment_106 : decode cX6_mixEquipment 106 = .ok (.invokevirtual 76, 3) := by decide +kernel
theorem dX6_mixEquipment_109 : decode cX6_mixEquipment 109 = .ok (.iload 6, 2) := by decide +kernel
theorem dX6_mixEquipment_111 : decode cX6_mixEquipment 111 = .ok (.invokevirtual 231, 3) := by decide +kernel
theorem dX6_mixEquipment_114 : decode cX6_mixEquipment 114 = .ok (.i2l, 1) := by decide +kernel
theorem dX6_mixEquipment_115 : decode cX6_mixEquipment 115 = .ok (.invokestatic 276, 3) := by decide +kernel
theorem dX6_mixEquipment_118 : decode cX6_mixEquipment 118 = .ok (.lstore_n 3, 1) := by decide +kernel
theorem dX6_mixEquipment_119 : decode cX6_mixEquipment 119 = .ok (.iinc 6 1, 3) := by decide +kernel
theorem dX6_mixEquipment_122 : decode cX6_mixEquipment 122 = .ok (.goto (-30), 3) := by decide +kernel
theorem dX6_mixEquipment_125 : decode cX6_mixEquipment 125 = .ok (.iinc 5 1, 3) := by decide +kernel
theorem dX6_mixEquipment_128 : decode cX6_mixEquipment 128 = .ok (.goto (-45), 3) := by decide +kernel
theorem dX6_mixEquipment_131 : decode cX6_mixEquipment 131 = .ok (.iconst 0, 1) := by decide +kernel
theorem dX6_mixEquipment_132 : decode cX6_mixEquipment 132 = .ok (.istore 5, 2) := by decide +kernel
theorem dX6_mixEquipment_134 : decode cX6_mixEquipment 134 = .ok (.iload 5, 2) := by decide +kernel
theorem dX6_mixEquipment_136 : decode cX6_mixEquipment 136 = .ok (.bipush 6, 2) := by decide +kernel
theorem dX6_mixEquipment_138 : decode cX6_mixEquipment 138 = .ok (.if_icmp .gt 44, 3) := by decide +kernel
theorem dX6_mixEquipment_141 : decode cX6_mixEquipment 141 = .ok (.iconst 0, 1) := by decide +kernel
theorem dX6_mixEquipment_142 : decode cX6_mixEquipment 142 = .ok (.istore 6, 2) := by decide +kernel
theorem dX6_mixEquipment_144 : decode cX6_mixEquipment 144 = .ok (.iload 6, 2) := by decide +kernel
theorem dX6_mixEquipment_146 : decode cX6_mixEquipment 146 = .ok (.iconst 4, 1) := by decide +kernel
theorem dX6_mixEquipment_147 : decode cX6_mixEquipment 147 = .ok (.if_icmp .ge 29, 3) := by decide +kernel
theorem dX6_mixEquipment_150 : decode cX6_mixEquipment 150 = .ok (.lload_n 3, 1) := by decide +kernel
theorem dX6_mixEquipment_151 : decode cX6_mixEquipment 151 = .ok (.aload_n 0, 1) := by decide +kernel
theorem dX6_mixEquipment_152 : decode cX6_mixEquipment 152 = .ok (.getfield 10, 3) := by decide +kernel
theorem dX6_mixEquipment_155 : decode cX6_mixEquipment 155 = .ok (.iload 5, 2) := by decide +kernel
theorem dX6_mixEquipment_157 : decode cX6_mixEquipment 157 = .ok (.invokevirtual 241, 3) := by decide +kernel
theorem dX6_mixEquipment_160 : decode cX6_mixEquipment 160 = .ok (.iload 6, 2) := by decide +kernel
theorem dX6_mixEquipment_162 : decode cX6_mixEquipment 162 = .ok (.invokevirtual 245, 3) := by decide +kernel
theorem dX6_mixEquipment_165 : decode cX6_mixEquipment 165 = .ok (.i2l, 1) := by decide +kernel
theorem dX6_mixEquipment_166 : decode cX6_mixEquipment 166 = .ok (.invokestatic 276, 3) := by decide +kernel
theorem dX6_mixEquipment_169 : decode cX6_mixEquipment 169 = .ok (.lstore_n 3, 1) := by decide +kernel
theorem dX6_mixEquipment_170 : decode cX6_mixEquipment 170 = .ok (.iinc 6 1, 3) := by decide +kernel
theorem dX6_mixEquipment_173 : decode cX6_mixEquipment 173 = .ok (.goto (-29), 3) := by decide +kernel
theorem dX6_mixEquipment_176 : decode cX6_mixEquipment 176 = .ok (.iinc 5 1, 3) := by decide +kernel
theorem dX6_mixEquipment_179 : decode cX6_mixEquipment 179 = .ok (.goto (-45), 3) := by decide +kernel
theorem dX6_mixEquipment_182 : decode cX6_mixEquipment 182 = .ok (.lload_n 3, 1) := by decide +kernel
theorem dX6_mixEquipment_183 : decode cX6_mixEquipment 183 = .ok (.lreturn, 1) := by decide +kernel
theorem dX6_mixJobs_0 : decode cX6_mixJobs 0 = .ok (.lload_n 1, 1) := by decide +kernel
theorem dX6_mixJobs_1 : decode cX6_mixJobs 1 = .ok (.lstore_n 3, 1) := by decide +kernel
theorem dX6_mixJobs_2 : decode cX6_mixJobs 2 = .ok (.iconst 0, 1) := by decide +kernel
theorem dX6_mixJobs_3 : decode cX6_mixJobs 3 = .ok (.istore 5, 2) := by decide +kernel
theorem dX6_mixJobs_5 : decode cX6_mixJobs 5 = .ok (.iload 5, 2) := by decide +kernel
theorem dX6_mixJobs_7 : decode cX6_mixJobs 7 = .ok (.aload_n 0, 1) := by decide +kernel
theorem dX6_mixJobs_8 : decode cX6_mixJobs 8 = .ok (.getfield 10, 3) := by decide +kernel
theorem dX6_mixJobs_11 : decode cX6_mixJobs 11 = .ok (.getfield 113, 3) := by decide +kernel
theorem dX6_mixJobs_14 : decode cX6_mixJobs 14 = .ok (.if_icmp .ge 86, 3) := by decide +kernel
theorem dX6_mixJobs_17 : decode cX6_mixJobs 17 = .ok (.iconst 0, 1) := by decide +kernel
theorem dX6_mixJobs_18 : decode cX6_mixJobs 18 = .ok (.istore 6, 2) := by decide +kernel
theorem dX6_mixJobs_20 : decode cX6_mixJobs 20 = .ok (.iload 6, 2) := by decide +kernel
theorem dX6_mixJobs_22 : decode cX6_mixJobs 22 = .ok (.bipush 8, 2) := by decide +kernel
theorem dX6_mixJobs_24 : decode cX6_mixJobs 24 = .ok (.if_icmp .ge 26, 3) := by decide +kernel
theorem dX6_mixJobs_27 : decode cX6_mixJobs 27 = .ok (.lload_n 3, 1) := by decide +kernel
theorem dX6_mixJobs_28 : decode cX6_mixJobs 28 = .ok (.aload_n 0, 1) := by decide +kernel
theorem dX6_mixJobs_29 : decode cX6_mixJobs 29 = .ok (.getfield 10, 3) := by decide +kernel
theorem dX6_mixJobs_32 : decode cX6_mixJobs 32 = .ok (.iload 5, 2) := by decide +kernel
theorem dX6_mixJobs_34 : decode cX6_mixJobs 34 = .ok (.iload 6, 2) := by decide +kernel
theorem dX6_mixJobs_36 : decode cX6_mixJobs 36 = .ok (.invokevirtual 236, 3) := by decide +kernel
theorem dX6_mixJobs_39 : decode cX6_mixJobs 39 = .ok (.i2l, 1) := by decide +kernel
theorem dX6_mixJobs_40 : decode cX6_mixJobs 40 = .ok (.invokestatic 276, 3) := by decide +kernel
theorem dX6_mixJobs_43 : decode cX6_mixJobs 43 = .ok (.lstore_n 3, 1) := by decide +kernel
theorem dX6_mixJobs_44 : decode cX6_mixJobs 44 = .ok (.iinc 6 1, 3) := by decide +kernel
theorem dX6_mixJobs_47 : decode cX6_mixJobs 47 = .ok (.goto (-27), 3) := by decide +kernel
theorem dX6_mixJobs_50 : decode cX6_mixJobs 50 = .ok (.aload_n 0, 1) := by decide +kernel
theorem dX6_mixJobs_51 : decode cX6_mixJobs 51 = .ok (.getfield 10, 3) := by decide +kernel
theorem dX6_mixJobs_54 : decode cX6_mixJobs 54 = .ok (.iload 5, 2) := by decide +kernel
theorem dX6_mixJobs_56 : decode cX6_mixJobs 56 = .ok (.invokevirtual 336, 3) := by decide +kernel
theorem dX6_mixJobs_59 : decode cX6_mixJobs 59 = .ok (.getfield 340, 3) := by decide +kernel
theorem dX6_mixJobs_62 : decode cX6_mixJobs 62 = .ok (.istore 6, 2) := by decide +kernel
theorem dX6_mixJobs_64 : decode cX6_mixJobs 64 = .ok (.aload_n 0, 1) := by decide +kernel
theorem dX6_mixJobs_65 : decode cX6_mixJobs 65 = .ok (.iload 6, 2) := by decide +kernel
theorem dX6_mixJobs_67 : decode cX6_mixJobs 67 = .ok (.invokevirtual 261, 3) := by decide +kernel
theorem dX6_mixJobs_70 : decode cX6_mixJobs 70 = .ok (.istore 7, 2) := by decide +kernel
theorem dX6_mixJobs_72 : decode cX6_mixJobs 72 = .ok (.lload_n 3, 1) := by decide +kernel
theorem dX6_mixJobs_73 : decode cX6_mixJobs 73 = .ok (.iload 7, 2) := by decide +kernel
theorem dX6_mixJobs_75 : decode cX6_mixJobs 75 = .ok (.i2l, 1) := by decide +kernel
theorem dX6_mixJobs_76 : decode cX6_mixJobs 76 = .ok (.invokestatic 276, 3) := by decide +kernel
theorem dX6_mixJobs_79 : decode cX6_mixJobs 79 = .ok (.lstore_n 3, 1) := by decide +kernel
theorem dX6_mixJobs_80 : decode cX6_mixJobs 80 = .ok (.lload_n 3, 1) := by decide +kernel
theorem dX6_mixJobs_81 : decode cX6_mixJobs 81 = .ok (.aload_n 0, 1) := by decide +kernel
theorem dX6_mixJobs_82 : decode cX6_mixJobs 82 = .ok (.iload 6, 2) := by decide +kernel
theorem dX6_mixJobs_84 : decode cX6_mixJobs 84 = .ok (.iload 7, 2) := by decide +kernel
theorem dX6_mixJobs_86 : decode cX6_mixJobs 86 = .ok (.invokevirtual 264, 3) := by decide +kernel
theorem dX6_mixJobs_89 : decode cX6_mixJobs 89 = .ok (.i2l, 1) := by decide +kernel
theorem dX6_mixJobs_90 : decode cX6_mixJobs 90 = .ok (.invokestatic 276, 3) := by decide +kernel
theorem dX6_mixJobs_93 : decode cX6_mixJobs 93 = .ok (.lstore_n 3, 1) := by decide +kernel
theorem dX6_mixJobs_94 : decode cX6_mixJobs 94 = .ok (.iinc 5 1, 3) := by decide +kernel
theorem dX6_mixJobs_97 : decode cX6_mixJobs 97 = .ok (.goto (-92), 3) := by decide +kernel
theorem dX6_mixJobs_100 : decode cX6_mixJobs 100 = .ok (.lload_n 3, 1) := by decide +kernel
theorem dX6_mixJobs_101 : decode cX6_mixJobs 101 = .ok (.lreturn, 1) := by decide +kernel
end
section
theorem dX7_init_0 : decode cX7_init 0 = .ok (.aload_n 0, 1) := by decide +kernel
theorem dX7_init_1 : decode cX7_init 1 = .ok (.invokespecial 1, 3) := by decide +kernel
theorem dX7_init_4 : decode cX7_init 4 = .ok (.aload_n 0, 1) := by decide +kernel
theorem dX7_init_5 : decode cX7_init 5 = .ok (.sipush 158, 3) := by decide +kernel
theorem dX7_init_8 : decode cX7_init 8 = .ok (.newarray .int, 2) := by decide +kernel
theorem dX7_init_10 : decode cX7_init 10 = .ok (.putfield 7, 3) := by decide +kernel
theorem dX7_init_13 : decode cX7_init 13 = .ok (.aload_n 0, 1) := by decide +kernel
theorem dX7_init_14 : decode cX7_init 14 = .ok (.sipush 158, 3) := by decide +kernel
theorem dX7_init_17 : decode cX7_init 17 = .ok (.newarray .int, 2) := by decide +kernel
theorem dX7_init_19 : decode cX7_init 19 = .ok (.putfield 13, 3) := by decide +kernel
theorem dX7_init_22 : decode cX7_init 22 = .ok (.aload_n 0, 1) := by decide +kernel
theorem dX7_init_23 : decode cX7_init 23 = .ok (.sipush 948, 3) := by decide +kernel
theorem dX7_init_26 : decode cX7_init 26 = .ok (.newarray .int, 2) := by decide +kernel
theorem dX7_init_28 : decode cX7_init 28 = .ok (.putfield 16, 3) := by decide +kernel
theorem dX7_init_31 : decode cX7_init 31 = .ok (.aload_n 0, 1) := by decide +kernel
theorem dX7_init_32 : decode cX7_init 32 = .ok (.bipush 60, 2) := by decide +kernel
theorem dX7_init_34 : decode cX7_init 34 = .ok (.newarray .int, 2) := by decide +kernel
theorem dX7_init_36 : decode cX7_init 36 = .ok (.putfield 19, 3) := by decide +kernel
theorem dX7_init_39 : decode cX7_init 39 = .ok (.aload_n 0, 1) := by decide +kernel
theorem dX7_init_40 : decode cX7_init 40 = .ok (.bipush 96, 2) := by decide +kernel
theorem dX7_init_42 : decode cX7_init 42 = .ok (.newarray .int, 2) := by decide +kernel
theorem dX7_init_44 : decode cX7_init 44 = .ok (.putfield 22, 3) := by decide +kernel
theorem dX7_init_47 : decode cX7_init 47 = .ok (.aload_n 0, 1) := by decide +kernel
theorem dX7_init_48 : decode cX7_init 48 = .ok (.iconst 0, 1) := by decide +kernel
theorem dX7_init_49 : decode cX7_init 49 = .ok (.putfield 25, 3) := by decide +kernel
theorem dX7_init_52 : decode cX7_init 52 = .ok (.aload_n 0, 1) := by decide +kernel
theorem dX7_init_53 : decode cX7_init 53 = .ok (.getfield 7, 3) := by decide +kernel
theorem dX7_init_56 : decode cX7_init 56 = .ok (.iconst 0, 1) := by decide +kernel
theorem dX7_init_57 : decode cX7_init 57 = .ok (.sipush 150, 3) := by decide +kernel
theorem dX7_init_60 : decode cX7_init 60 = .ok (.iastore, 1) := by decide +kernel
theorem dX7_init_61 : decode cX7_init 61 = .ok (.aload_n 0, 1) := by decide +kernel
theorem dX7_init_62 : decode cX7_init 62 = .ok (.getfield 7, 3) := by decide +kernel
theorem dX7_init_65 : decode cX7_init 65 = .ok (.iconst 1, 1) := by decide +kernel
theorem dX7_init_66 : decode cX7_init 66 = .ok (.bipush 40, 2) := by decide +kernel
theorem dX7_init_68 : decode cX7_init 68 = .ok (.iastore, 1) := by decide +kernel
theorem dX7_init_69 : decode cX7_init 69 = .ok (.aload_n 0, 1) := by decide +kernel
theorem dX7_init_70 : decode cX7_init 70 = .ok (.getfield 7, 3) := by decide +kernel
theorem dX7_init_73 : decode cX7_init 73 = .ok (.iconst 2, 1) := by decide +kernel
theorem dX7_init_74 : decode cX7_init 74 = .ok (.iconst 1, 1) := by decide +kernel
theorem dX7_init_75 : decode cX7_init 75 = .ok (.iastore, 1) := by decide +kernel
theorem dX7_init_76 : decode cX7_init 76 = .ok (.aload_n 0, 1) := by decide +kernel
theorem dX7_init_77 : decode cX7_init 77 = .ok (.getfield 7, 3) := by decide +kernel
theorem dX7_init_80 : decode cX7_init 80 = .ok (.iconst 3, 1) := by decide +kernel
theorem dX7_init_81 : decode cX7_init 81 = .ok (.iconst 5, 1) := by decide +kernel
theorem dX7_init_82 : decode cX7_init 82 = .ok (.iastore, 1) := by decide +kernel
theorem dX7_init_83 : decode cX7_init 83 = .ok (.iconst 0, 1) := by decide +kernel
theorem dX7_init_84 : decode cX7_init 84 = .ok (.istore_n 1, 1) := by decide +kernel
theorem dX7_init_85 : decode cX7_init 85 = .ok (.iload_n 1, 1) := by decide +kernel
theorem dX7_init_86 : decode cX7_init 86 = .ok (.iconst 4, 1) := by decide +kernel
theorem dX7_init_87 : decode cX7_init 87 = .ok (.if_icmp .ge 41, 3) := by decide +kernel
theorem dX7_init_90 : decode cX7_init 90 = .ok (.aload_n 0, 1) := by decide +kernel
theorem dX7_init_91 : decode cX7_init 91 = .ok (.getfield 7, 3) := by decide +kernel
theorem dX7_init_94 : decode cX7_init 94 = .ok (.bipush 15, 2) := by decide +kernel
theorem dX7_init_96 : decode cX7_init 96 = .ok (.iconst 5, 1) := by decide +kernel
theorem dX7_init_97 : decode cX7_init 97 = .ok (.iload_n 1, 1) := by decide +kernel
theorem dX7_init_98 : decode cX7_init 98 = .ok (.imul, 1) := by decide +kernel
theorem dX7_init_99 : decode cX7_init 99 = .ok (.iadd, 1) := by decide +kernel
theorem dX7_init_100 : decode cX7_init 100 = .ok (.iconst 1, 1) := by decide +kernel
theorem dX7_init_101 : decode cX7_init 101 = .ok (.iadd, 1) := by decide +kernel
theorem dX7_init_102 : decode cX7_init 102 = .ok (.sipush 900, 3) := by decide +kernel
theorem dX7_init_105 : decode cX7_init 105 = .ok (.iastore, 1) := by decide +kernel
theorem dX7_init_106 : decode cX7_init 106 = .ok (.aload_n 0, 1) := by decide +kernel
theorem dX7_init_107 : decode cX7_init 107 = .ok (.getfield 7, 3) := by decide +kernel
theorem dX7_init_110 : decode cX7_init 110 = .ok (.bipush 15, 2) := by decide +kernel
theorem dX7_init_112 : decode cX7_init 112 = .ok (.iconst 5, 1) := by decide +kernel
theorem dX7_init_113 : decode cX7_init 113 = .ok (.iload_n 1, 1) := by decide +kernel
theorem dX7_init_114 : decode cX7_init 114 = .ok (.imul, 1) := by decide +kernel
theorem dX7_init_115 : decode cX7_init 115 = .ok (.iadd, 1) := by decide +kernel
theorem dX7_init_116 : decode cX7_init 116 = .ok (.iconst 2, 1) := by decide +kernel
theorem dX7_init_117 : decode cX7_init 117 = .ok (.iadd, 1) := by decide +kernel
theorem dX7_init_118 : decode cX7_init 118 = .ok (.sipush 1100, 3) := by decide +kernel
theorem dX7_init_121 : decode cX7_init 121 = .ok (.iastore, 1) := by decide +kernel
theorem dX7_init_122 : decode cX7_init 122 = .ok (.iinc 1 1, 3) := by decide +kernel
theorem dX7_init_125 : decode cX7_init 125 = .ok (.goto (-40), 3) := by decide +kernel
theorem dX7_init_128 : decode cX7_init 128 = .ok (.iconst 0, 1) := by decide +kernel
theorem dX7_init_129 : decode cX7_init 129 = .ok (.istore_n 1, 1) := by decide +kernel
theorem dX7_init_130 : decode cX7_init 130 = .ok (.iload_n 1, 1) := by decide +kernel
theorem dX7_init_131 : decode cX7_init 131 = .ok (.iconst 5, 1) := by decide +kernel
theorem dX7_init_132 : decode cX7_init 132 = .ok (.if_icmp .ge 38, 3) := by decide +kernel
theorem dX7_init_135 : decode cX7_init 135 = .ok (.aload_n 0, 1) := by decide +kernel
theorem dX7_init_136 : decode cX7_init 136 = .ok (.getfield 7, 3) := by decide +kernel
theorem dX7_init_139 : decode cX7_init 139 = .ok (.bipush 35, 2) := by decide +kernel
theorem dX7_init_141 : decode cX7_init 141 = .ok (.iconst 5, 1) := by decide +kernel
theorem dX7_init_142 : decode cX7_init 142 = .ok (.iload_n 1, 1) := by decide +kernel
theorem dX7_init_143 : decode cX7_init 143 = .ok (.imul, 1) := by decide +kernel
theorem dX7_init_144 : decode cX7_init 144 = .ok (.iadd, 1) := by decide +kernel
theorem dX7_init_145 : decode cX7_init 145 = .ok (.iconst 0, 1) := by decide +kernel
theorem dX7_init_146 : decode cX7_init 146 = .ok (.iadd, 1) := by decide +kernel
theorem dX7_init_147 : decode cX7_init 147 = .ok (.iconst 3, 1) := by decide +kernel
theorem dX7_init_148 : decode cX7_init 148 = .ok (.iastore, 1) := by decide +kernel
theorem dX7_init_149 : decode cX7_init 149 = .ok (.aload_n 0, 1) := by decide +kernel
theorem dX7_init_150 : decode cX7_init 150 = .ok (.getfield 7, 3) := by decide +kernel
theorem dX7_init_153 : decode cX7_init 153 = .ok (.bipush 35, 2) := by decide +kernel
theorem dX7_init_155 : decode cX7_init 155 = .ok (.iconst 5, 1) := by decide +kernel
theorem dX7_init_156 : decode cX7_init 156 = .ok (.iload_n 1, 1) := by decide +kernel
theorem dX7_init_157 : decode cX7_init 157 = .ok (.imul, 1) := by decide +kernel
theorem dX7_init_158 : decode cX7_init 158 = .ok (.iadd, 1) := by decide +kernel
theorem dX7_init_159 : decode cX7_init 159 = .ok (.iconst 1, 1) := by decide +kernel
theorem dX7_init_160 : decode cX7_init 160 = .ok (.iadd, 1) := by decide +kernel
theorem dX7_init_161 : decode cX7_init 161 = .ok (.bipush 60, 2) := by decide +kernel
theorem dX7_init_163 : decode cX7_init 163 = .ok (.iastore, 1) := by decide +kernel
theorem dX7_init_164 : decode cX7_init 164 = .ok (.iinc 1 1, 3) := by decide +kernel
theorem dX7_init_167 : decode cX7_init 167 = .ok (.goto (-37), 3) := by decide +kernel
theorem dX7_init_170 : decode cX7_init 170 = .ok (.return_, 1) := by decide +kernel
theorem dX7_thrown_0 : decode cX7_thrown 0 = .ok (.aload_n 0, 1) := by decide +kernel
theorem dX7_thrown_1 : decode cX7_thrown 1 = .ok (.getfield 25, 3) := by decide +kernel
theorem dX7_thrown_4 : decode cX7_thrown 4 = .ok (.ireturn, 1) := by decide +kernel
theorem dX7_in_0 : decode cX7_in 0 = .ok (.iload_n 0, 1) := by decide +kernel
theorem dX7_in_1 : decode cX7_in 1 = .ok (.iload_n 1, 1) := by decide +kernel
theorem dX7_in_2 : decode cX7_in 2 = .ok (.if_icmp .lt 12, 3) := by decide +kernel
theorem dX7_in_5 : decode cX7_in 5 = .ok (.iload_n 0, 1) := by decide +kernel
theorem dX7_in_6 : decode cX7_in 6 = .ok (.iload_n 2, 1) := by decide +kernel
theorem dX7_in_7 : decode cX7_in 7 = .ok (.if_icmp .gt 7, 3) := by decide +kernel
theorem dX7_in_10 : decode cX7_in 10 = .ok (.iconst 1, 1) := by decide +kernel
theorem dX7_in_11 : decode cX7_in 11 = .ok (.goto 4, 3) := by decide +kernel
theorem dX7_in_14 : decode cX7_in 14 = .ok (.iconst 0, 1) := by decide +kernel
theorem dX7_in_15 : decode cX7_in 15 = .ok (.ireturn, 1) := by decide +kernel
theorem dX7_fails_0 : decode cX7_fails 0 = .ok (.aload_n 0, 1) := by decide +kernel
theorem dX7_fails_1 : decode cX7_fails 1 = .ok (.iload_n 1, 1) := by decide +kernel
theorem dX7_fails_2 : decode cX7_fails 2 = .ok (.putfield 25, 3) := by decide +kernel
theorem dX7_fails_5 : decode cX7_fails 5 = .ok (.iconst 0, 1) := by decide +kernel
theorem dX7_fails_6 : decode cX7_fails 6 = .ok (.ireturn, 1) := by decide +kernel
theorem dX7_isHeat_0 : decode cX7_isHeat 0 = .ok (.iload_n 0, 1) := by decide +kernel
theorem dX7_isHeat_1 : decode cX7_isHeat 1 = .ok (.iconst 0, 1) := by decide +kernel
theorem dX7_isHeat_2 : decode cX7_isHeat 2 = .ok (.iconst 3, 1) := by decide +kernel
theorem dX7_isHeat_3 : decode cX7_isHeat 3 = .ok (.invokestatic 29, 3) := by decide +kernel
theorem dX7_isHeat_6 : decode cX7_isHeat 6 = .ok (.ireturn, 1) := by decide +kernel
theorem dX7_isDie_0 : decode cX7_isDie 0 = .ok (.iload_n 0, 1) := by decide +kernel
theorem dX7_isDie_1 : decode cX7_isDie 1 = .ok (.iconst 0, 1) := by decide +kernel
theorem dX7_isDie_2 : decode cX7_isDie 2 = .ok (.iconst 4, 1) := by decide +kernel
theorem dX7_isDie_3 : decode cX7_isDie 3 = .ok (.invokestatic 29, 3) := by decide +kernel
theorem dX7_isDie_6 : decode cX7_isDie 6 = .ok (.ireturn, 1) := by decide +kernel
theorem dX7_saves_0 : decode cX7_saves 0 = .ok (.aload_n 0, 1) := by decide +kernel
theorem dX7_saves_1 : decode cX7_saves 1 = .ok (.getfield 33, 3) := by decide +kernel
theorem dX7_saves_4 : decode cX7_saves 4 = .ok (.bipush 6, 2) := by decide +kernel
theorem dX7_saves_6 : decode cX7_saves 6 = .ok (.if_icmp .ne 44, 3) := by decide +kernel
theorem dX7_saves_9 : decode cX7_saves 9 = .ok (.iconst 0, 1) := by decide +kernel
theorem dX7_saves_10 : decode cX7_saves 10 = .ok (.istore_n 1, 1) := by decide +kernel
theorem dX7_saves_11 : decode cX7_saves 11 = .ok (.iload_n 1, 1) := by decide +kernel
theorem dX7_saves_12 : decode cX7_saves 12 = .ok (.sipush 790, 3) := by decide +kernel
theorem dX7_saves_15 : decode cX7_saves 15 = .ok (.if_icmp .ge 25, 3) := by decide +kernel
theorem dX7_saves_18 : decode cX7_saves 18 = .ok (.aload_n 0, 1) := by decide +kernel
theorem dX7_saves_19 : decode cX7_saves 19 = .ok (.getfield 16, 3) := by decide +kernel
theorem dX7_saves_22 : decode cX7_saves 22 = .ok (.iload_n 1, 1) := by decide +kernel
theorem dX7_saves_23 : decode cX7_saves 23 = .ok (.aload_n 0, 1) := by decide +kernel
theorem dX7_saves_24 : decode cX7_saves 24 = .ok (.getfield 16, 3) := by decide +kernel
theorem dX7_saves_27 : decode cX7_saves 27 = .ok (.iload_n 1, 1) := by decide +kernel
theorem dX7_saves_28 : decode cX7_saves 28 = .ok (.sipush 158, 3) := by decide +kernel
theorem dX7_saves_31 : decode cX7_saves 31 = .ok (.iadd, 1) := by decide +kernel
theorem dX7_saves_32 : decode cX7_saves 32 = .ok (.iaload, 1) := by decide +kernel
theorem dX7_saves_33 : decode cX7_saves 33 = .ok (.iastore, 1) := by decide +kernel
theorem dX7_saves_34 : decode cX7_saves 34 = .ok (.iinc 1 1, 3) := by decide +kernel
theorem dX7_saves_37 : decode cX7_saves 37 = .ok (.goto (-26), 3) := by decide +kernel
theorem dX7_saves_40 : decode cX7_saves 40 = .ok (.aload_n 0, 1) := by decide +kernel
theorem dX7_saves_41 : decode cX7_saves 41 = .ok (.dup, 1) := by decide +kernel
theorem dX7_saves_42 : decode cX7_saves 42 = .ok (.getfield 33, 3) := by decide +kernel
theorem dX7_saves_45 : decode cX7_saves 45 = .ok (.iconst 1, 1) := by decide +kernel
theorem dX7_saves_46 : decode cX7_saves 46 = .ok (.isub, 1) := by decide +kernel
theorem dX7_saves_47 : decode cX7_saves 47 = .ok (.putfield 33, 3) := by decide +kernel
theorem dX7_saves_50 : decode cX7_saves 50 = .ok (.iconst 0, 1) := by decide +kernel
theorem dX7_saves_51 : decode cX7_saves 51 = .ok (.istore_n 1, 1) := by decide +kernel
theorem dX7_saves_52 : decode cX7_saves 52 = .ok (.iload_n 1, 1) := by decide +kernel
theorem dX7_saves_53 : decode cX7_saves 53 = .ok (.sipush 158, 3) := by decide +kernel
theorem dX7_saves_56 : decode cX7_saves 56 = .ok (.if_icmp .ge 30, 3) := by decide +kernel
theorem dX7_saves_59 : decode cX7_saves 59 = .ok (.aload_n 0, 1) := by decide +kernel
theorem dX7_saves_60 : decode cX7_saves 60 = .ok (.getfield 16, 3) := by decide +kernel
theorem dX7_saves_63 : decode cX7_saves 63 = .ok (.sipush 158, 3) := by decide +kernel
theorem dX7_saves_66 : decode cX7_saves 66 = .ok (.aload_n 0, 1) := by decide +kernel
theorem dX7_saves_67 : decode cX7_saves 67 = .ok (.getfield 33, 3) := by decide +kernel
theorem dX7_saves_70 : decode cX7_saves 70 = .ok (.imul, 1) := by decide +kernel
theorem dX7_saves_71 : decode cX7_saves 71 = .ok (.iload_n 1, 1) := by decide +kernel
theorem dX7_saves_72 : decode cX7_saves 72 = .ok (.iadd, 1) := by decide +kernel
theorem dX7_saves_73 : decode cX7_saves 73 = .ok (.aload_n 0, 1) := by decide +kernel
theorem dX7_saves_74 : decode cX7_saves 74 = .ok (.getfield 7, 3) := by decide +kernel
theorem dX7_saves_77 : decode cX7_saves 77 = .ok (.iload_n 1, 1) := by decide +kernel
theorem dX7_saves_78 : decode cX7_saves 78 = .ok (.iaload, 1) := by decide +kernel
theorem dX7_saves_79 : decode cX7_saves 79 = .ok (.iastore, 1) := by decide +kernel
theorem dX7_saves_80 : decode cX7_saves 80 = .ok (.iinc 1 1, 3) := by decide +kernel
theorem dX7_saves_83 : decode cX7_saves 83 = .ok (.goto (-31), 3) := by decide +kernel
theorem dX7_saves_86 : decode cX7_saves 86 = .ok (.aload_n 0, 1) := by decide +kernel
theorem dX7_saves_87 : decode cX7_saves 87 = .ok (.dup, 1) := by decide +kernel
theorem dX7_saves_88 : decode cX7_saves 88 = .ok (.getfield 33, 3) := by decide +kernel
theorem dX7_saves_91 : decode cX7_saves 91 = .ok (.iconst 1, 1) := by decide +kernel
theorem dX7_saves_92 : decode cX7_saves 92 = .ok (.iadd, 1) := by decide +kernel
theorem dX7_saves_93 : decode cX7_saves 93 = .ok (.putfield 33, 3) := by decide +kernel
theorem dX7_saves_96 : decode cX7_saves 96 = .ok (.return_, 1) := by decide +kernel
theorem dX7_putAside_0 : decode cX7_putAside 0 = .ok (.iconst 0, 1) := by decide +kernel
theorem dX7_putAside_1 : decode cX7_putAside 1 = .ok (.istore_n 1, 1) := by decide +kernel
theorem dX7_putAside_2 : decode cX7_putAside 2 = .ok (.iload_n 1, 1) := by decide +kernel
theorem dX7_putAside_3 : decode cX7_putAside 3 = .ok (.sipush 158, 3) := by decide +kernel
theorem dX7_putAside_6 : decode cX7_putAside 6 = .ok (.if_icmp .ge 21, 3) := by decide +kernel
theorem dX7_putAside_9 : decode cX7_putAside 9 = .ok (.aload_n 0, 1) := by decide +kernel
theorem dX7_putAside_10 : decode cX7_putAside 10 = .ok (.getfield 13, 3) := by decide +kernel
theorem dX7_putAside_13 : decode cX7_putAside 13 = .ok (.iload_n 1, 1) := by decide +kernel
theorem dX7_putAside_14 : decode cX7_putAside 14 = .ok (.aload_n 0, 1) := by decide +kernel
theorem dX7_putAside_15 : decode cX7_putAside 15 = .ok (.getfield 7, 3) := by decide +kernel
theorem dX7_putAside_18 : decode cX7_putAside 18 = .ok (.iload_n 1, 1) := by decide +kernel
theorem dX7_putAside_19 : decode cX7_putAside 19 = .ok (.iaload, 1) := by decide +kernel
theorem dX7_putAside_20 : decode cX7_putAside 20 = .ok (.iastore, 1) := by decide +kernel
theorem dX7_putAside_21 : decode cX7_putAside 21 = .ok (.iinc 1 1, 3) := by decide +kernel
theorem dX7_putAside_24 : decode cX7_putAside 24 = .ok (.goto (-22), 3) := by decide +kernel
theorem dX7_putAside_27 : decode cX7_putAside 27 = .ok (.return_, 1) := by decide +kernel
theorem dX7_takeBack_0 : decode cX7_takeBack 0 = .ok (.iconst 0, 1) := by decide +kernel
theorem dX7_takeBack_1 : decode cX7_takeBack 1 = .ok (.istore_n 1, 1) := by decide +kernel
theorem dX7_takeBack_2 : decode cX7_takeBack 2 = .ok (.iload_n 1, 1) := by decide +kernel
theorem dX7_takeBack_3 : decode cX7_takeBack 3 = .ok (.sipush 158, 3) := by decide +kernel
theorem dX7_takeBack_6 : decode cX7_takeBack 6 = .ok (.if_icmp .ge 21, 3) := by decide +kernel
theorem dX7_takeBack_9 : decode cX7_takeBack 9 = .ok (.aload_n 0, 1) := by decide +kernel
theorem dX7_takeBack_10 : decode cX7_takeBack 10 = .ok (.getfield 7, 3) := by decide +kernel
theorem dX7_takeBack_13 : decode cX7_takeBack 13 = .ok (.iload_n 1, 1) := by decide +kernel
theorem dX7_takeBack_14 : decode cX7_takeBack 14 = .ok (.aload_n 0, 1) := by decide +kernel
theorem dX7_takeBack_15 : decode cX7_takeBack 15 = .ok (.getfield 13, 3) := by decide +kernel
theorem dX7_takeBack_18 : decode cX7_takeBack 18 = .ok (.iload_n 1, 1) := by decide +kernel
theorem dX7_takeBack_19 : decode cX7_takeBack 19 = .ok (.iaload, 1) := by decide +kernel
theorem dX7_takeBack_20 : decode cX7_takeBack 20 = .ok (.iastore, 1) := by decide +kernel
theorem dX7_takeBack_21 : decode cX7_takeBack 21 = .ok (.iinc 1 1, 3) := by decide +kernel
theorem dX7_takeBack_24 : decode cX7_takeBack 24 = .ok (.goto (-22), 3) := by decide +kernel
theorem dX7_takeBack_27 : decode cX7_takeBack 27 = .ok (.return_, 1) := by decide +kernel
theorem dX7_heatOf_0 : decode cX7_heatOf 0 = .ok (.aload_n 0, 1) := by decide +kernel
theorem dX7_heatOf_1 : decode cX7_heatOf 1 = .ok (.getfield 7, 3) := by decide +kernel
theorem dX7_heatOf_4 : decode cX7_heatOf 4 = .ok (.bipush 15, 2) := by decide +kernel
theorem dX7_heatOf_6 : decode cX7_heatOf 6 = .ok (.iconst 5, 1) := by decide +kernel
theorem dX7_heatOf_7 : decode cX7_heatOf 7 = .ok (.iload_n 1, 1) := by decide +kernel
theorem dX7_heatOf_8 : decode cX7_heatOf 8 = .ok (.imul, 1) := by decide +kernel
theorem dX7_heatOf_9 : decode cX7_heatOf 9 = .ok (.iadd, 1) := by decide +kernel
theorem dX7_heatOf_10 : decode cX7_heatOf 10 = .ok (.iload_n 2, 1) := by decide +kernel
theorem dX7_heatOf_11 : decode cX7_heatOf 11 = .ok (.iadd, 1) := by decide +kernel
theorem dX7_heatOf_12 : decode cX7_heatOf 12 = .ok (.iaload, 1) := by decide +kernel
theorem dX7_heatOf_13 : decode cX7_heatOf 13 = .ok (.ireturn, 1) := by decide +kernel
theorem dX7_die0_0 : decode cX7_die0 0 = .ok (.aload_n 0, 1) := by decide +kernel
theorem dX7_die0_1 : decode cX7_die0 1 = .ok (.getfield 7, 3) := by decide +kernel
theorem dX7_die0_4 : decode cX7_die0 4 = .ok (.bipush 35, 2) := by decide +kernel
theorem dX7_die0_6 : decode cX7_die0 6 = .ok (.iconst 5, 1) := by decide +kernel
theorem dX7_die0_7 : decode cX7_die0 7 = .ok (.iload_n 1, 1) := by decide +kernel
theorem dX7_die0_8 : decode cX7_die0 8 = .ok (.imul, 1) := by decide +kernel
theorem dX7_die0_9 : decode cX7_die0 9 = .ok (.iadd, 1) := by decide +kernel
theorem dX7_die0_10 : decode cX7_die0 10 = .ok (.iload_n 2, 1) := by decide +kernel
theorem dX7_die0_11 : decode cX7_die0 11 = .ok (.iadd, 1) := by decide +kernel
theorem dX7_die0_12 : decode cX7_die0 12 = .ok (.iaload, 1) := by decide +kernel
theorem dX7_die0_13 : decode cX7_die0 13 = .ok (.ireturn, 1) := by decide +kernel
theorem dX7_job0_0 : decode cX7_job0 0 = .ok (.aload_n 0, 1) := by decide +kernel
theorem dX7_job0_1 : decode cX7_job0 1 = .ok (.getfield 7, 3) := by decide +kernel
theorem dX7_job0_4 : decode cX7_job0 4 = .ok (.bipush 60, 2) := by decide +kernel
theorem dX7_job0_6 : decode cX7_job0 6 = .ok (.bipush 7, 2) := by decide +kernel
theorem dX7_job0_8 : decode cX7_job0 8 = .ok (.iload_n 1, 1) := by decide +kernel
theorem dX7_job0_9 : decode cX7_job0 9 = .ok (.imul, 1) := by decide +kernel
theorem dX7_job0_10 : decode cX7_job0 10 = .ok (.iadd, 1) := by decide +kernel
theorem dX7_job0_11 : decode cX7_job0 11 = .ok (.iload_n 2, 1) := by decide +kernel
theorem dX7_job0_12 : decode cX7_job0 12 = .ok (.iadd, 1) := by decide +kernel
theorem dX7_job0_13 : decode cX7_job0 13 = .ok (.iaload, 1) := by decide +kernel
theorem dX7_job0_14 : decode cX7_job0 14 = .ok (.ireturn, 1) := by decide +kernel
theorem dX7_billet0_0 : decode cX7_billet0 0 = .ok (.aload_n 0, 1) := by decide +kernel
theorem dX7_billet0_1 : decode cX7_billet0 1 = .ok (.getfield 7, 3) := by decide +kernel
theorem dX7_billet0_4 : decode cX7_billet0 4 = .ok (.sipush 130, 3) := by decide +kernel
theorem dX7_billet0_7 : decode cX7_billet0 7 = .ok (.iconst 4, 1) := by decide +kernel
theorem dX7_billet0_8 : decode cX7_billet0 8 = .ok (.iload_n 1, 1) := by decide +kernel
theorem dX7_billet0_9 : decode cX7_billet0 9 = .ok (.imul, 1) := by decide +kernel
theorem dX7_billet0_10 : decode cX7_billet0 10 = .ok (.iadd, 1) := by decide +kernel
theorem dX7_billet0_11 : decode cX7_billet0 11 = .ok (.iload_n 2, 1) := by decide +kernel
theorem dX7_billet0_12 : decode cX7_billet0 12 = .ok (.iadd, 1) := by decide +kernel
theorem dX7_billet0_13 : decode cX7_billet0 13 = .ok (.iaload, 1) := by decide +kernel
theorem dX7_billet0_14 : decode cX7_billet0 14 = .ok (.ireturn, 1) := by decide +kernel
theorem dX7_lay_0 : decode cX7_lay 0 = .ok (.aload_n 0, 1) := by decide +kernel
theorem dX7_lay_1 : decode cX7_lay 1 = .ok (.getfield 7, 3) := by decide +kernel
theorem dX7_lay_4 : decode cX7_lay 4 = .ok (.sipush 130, 3) := by decide +kernel
theorem dX7_lay_7 : decode cX7_lay 7 = .ok (.iconst 4, 1) := by decide +kernel
theorem dX7_lay_8 : decode cX7_lay 8 = .ok (.iload_n 1, 1) := by decide +kernel
theorem dX7_lay_9 : decode cX7_lay 9 = .ok (.imul, 1) := by decide +kernel
theorem dX7_lay_10 : decode cX7_lay 10 = .ok (.iadd, 1) := by decide +kernel
theorem dX7_lay_11 : decode cX7_lay 11 = .ok (.iload_n 2, 1) := by decide +kernel
theorem dX7_lay_12 : decode cX7_lay 12 = .ok (.iadd, 1) := by decide +kernel
theorem dX7_lay_13 : decode cX7_lay 13 = .ok (.iload_n 3, 1) := by decide +kernel
theorem dX7_lay_14 : decode cX7_lay 14 = .ok (.iastore, 1) := by decide +kernel
theorem dX7_lay_15 : decode cX7_lay 15 = .ok (.return_, 1) := by decide +kernel
theorem dX7_isBeingGround_0 : decode cX7_isBeingGround 0 = .ok (.aload_n 0, 1) := by decide +kernel
theorem dX7_isBeingGround_1 : decode cX7_isBeingGround 1 = .ok (.getfield 7, 3) := by decide +kernel
theorem dX7_isBeingGround_4 : decode cX7_isBeingGround 4 = .ok (.bipush 13, 2) := by decide +kernel
theorem dX7_isBeingGround_6 : decode cX7_isBeingGround 6 = .ok (.iaload, 1) := by decide +kernel
theorem dX7_isBeingGround_7 : decode cX7_isBeingGround 7 = .ok (.iload_n 1, 1) := by decide +kernel
theorem dX7_isBeingGround_8 : decode cX7_isBeingGround 8 = .ok (.iconst 1, 1) := by decide +kernel
theorem dX7_isBeingGround_9 : decode cX7_isBeingGround 9 = .ok (.iadd, 1) := by decide +kernel
theorem dX7_isBeingGround_10 : decode cX7_isBeingGround 10 = .ok (.if_icmp .ne 7, 3) := by decide +kernel
theorem dX7_isBeingGround_13 : decode cX7_isBeingGround 13 = .ok (.iconst 1, 1) := by decide +kernel
theorem dX7_isBeingGround_14 : decode cX7_isBeingGround 14 = .ok (.goto 4, 3) := by decide +kernel
theorem dX7_isBeingGround_17 : decode cX7_isBeingGround 17 = .ok (.iconst 0, 1) := by decide +kernel
theorem dX7_isBeingGround_18 : decode cX7_isBeingGround 18 = .ok (.ireturn, 1) := by decide +kernel
theorem dX7_isWornOut_0 : decode cX7_isWornOut 0 = .ok (.aload_n 0, 1) := by decide +kernel
theorem dX7_isWornOut_1 : decode cX7_isWornOut 1 = .ok (.iload_n 1, 1) := by decide +kernel
theorem dX7_isWornOut_2 : decode cX7_isWornOut 2 = .ok (.iconst 2, 1) := by decide +kernel
theorem dX7_isWornOut_3 : decode cX7_isWornOut 3 = .ok (.invokevirtual 36, 3) := by decide +kernel
theorem dX7_isWornOut_6 : decode cX7_isWornOut 6 = .ok (.aload_n 0, 1) := by decide +kernel
theorem dX7_isWornOut_7 : decode cX7_isWornOut 7 = .ok (.iload_n 1, 1) := by decide +kernel
theorem dX7_isWornOut_8 : decode cX7_isWornOut 8 = .ok (.iconst 1, 1) := by decide +kernel
theorem dX7_isWornOut_9 : decode cX7_isWornOut 9 = .ok (.invokevirtual 36, 3) := by decide +kernel
theorem dX7_isWornOut_12 : decode cX7_isWornOut 12 = .ok (.if_icmp .lt 7, 3) := by decide +kernel
theorem dX7_isWornOut_15 : decode cX7_isWornOut 15 = .ok (.iconst 1, 1) := by decide +kernel
theorem dX7_isWornOut_16 : decode cX7_isWornOut 16 = .ok (.goto 4, 3) := by decide +kernel
theorem dX7_isWornOut_19 : decode cX7_isWornOut 19 = .ok (.iconst 0, 1) := by decide +kernel
theorem dX7_isWornOut_20 : decode cX7_isWornOut 20 = .ok (.ireturn, 1) := by decide +kernel
theorem dX7_isFit_0 : decode cX7_isFit 0 = .ok (.aload_n 0, 1) := by decide +kernel
theorem dX7_isFit_1 : decode cX7_isFit 1 = .ok (.iload_n 1, 1) := by decide +kernel
theorem dX7_isFit_2 : decode cX7_isFit 2 = .ok (.invokevirtual 40, 3) := by decide +kernel
theorem dX7_isFit_5 : decode cX7_isFit 5 = .ok (.ifCond .ne 15, 3) := by decide +kernel
theorem dX7_isFit_8 : decode cX7_isFit 8 = .ok (.aload_n 0, 1) := by decide +kernel
theorem dX7_isFit_9 : decode cX7_isFit 9 = .ok (.iload_n 1, 1) := by decide +kernel
theorem dX7_isFit_10 : decode cX7_isFit 10 = .ok (.invokevirtual 44, 3) := by decide +kernel
theorem dX7_isFit_13 : decode cX7_isFit 13 = .ok (.ifCond .ne 7, 3) := by decide +kernel
theorem dX7_isFit_16 : decode cX7_isFit 16 = .ok (.iconst 1, 1) := by decide +kernel
theorem dX7_isFit_17 : decode cX7_isFit 17 = .ok (.goto 4, 3) := by decide +kernel
theorem dX7_isFit_20 : decode cX7_isFit 20 = .ok (.iconst 0, 1) := by decide +kernel
theorem dX7_isFit_21 : decode cX7_isFit 21 = .ok (.ireturn, 1) := by decide +kernel
theorem dX7_jobWith_0 : decode cX7_jobWith 0 = .ok (.iconst 0, 1) := by decide +kernel
theorem dX7_jobWith_1 : decode cX7_jobWith 1 = .ok (.istore_n 2, 1) := by decide +kernel
theorem dX7_jobWith_2 : decode cX7_jobWith 2 = .ok (.iload_n 2, 1) := by decide +kernel
theorem dX7_jobWith_3 : decode cX7_jobWith 3 = .ok (.aload_n 0, 1) := by decide +kernel
theorem dX7_jobWith_4 : decode cX7_jobWith 4 = .ok (.getfield 7, 3) := by decide +kernel
theorem dX7_jobWith_7 : decode cX7_jobWith 7 = .ok (.iconst 5, 1) := by decide +kernel
theorem dX7_jobWith_8 : decode cX7_jobWith 8 = .ok (.iaload, 1) := by decide +kernel
theorem dX7_jobWith_9 : decode cX7_jobWith 9 = .ok (.if_icmp .ge 21, 3) := by decide +kernel
theorem dX7_jobWith_12 : decode cX7_jobWith 12 = .ok (.aload_n 0, 1) := by decide +kernel
theorem dX7_jobWith_13 : decode cX7_jobWith 13 = .ok (.iload_n 2, 1) := by decide +kernel
theorem dX7_jobWith_14 : decode cX7_jobWith 14 = .ok (.iconst 0, 1) := by decide +kernel
theorem dX7_jobWith_15 : decode cX7_jobWith 15 = .ok (.invokevirtual 47, 3) := by decide +kernel
theorem dX7_jobWith_18 : decode cX7_jobWith 18 = .ok (.iload_n 1, 1) := by decide +kernel
theorem dX7_jobWith_19 : decode cX7_jobWith 19 = .ok (.if_icmp .ne 5, 3) := by decide +kernel
theorem dX7_jobWith_22 : decode cX7_jobWith 22 = .ok (.iload_n 2, 1) := by decide +kernel
theorem dX7_jobWith_23 : decode cX7_jobWith 23 = .ok (.ireturn, 1) := by decide +kernel
theorem dX7_jobWith_24 : decode cX7_jobWith 24 = .ok (.iinc 2 1, 3) := by decide +kernel
theorem dX7_jobWith_27 : decode cX7_jobWith 27 = .ok (.goto (-25), 3) := by decide +kernel
theorem dX7_jobWith_30 : decode cX7_jobWith 30 = .ok (.iconst (-1), 1) := by decide +kernel
theorem dX7_jobWith_31 : decode cX7_jobWith 31 = .ok (.ireturn, 1) := by decide +kernel
theorem dX7_isAhead_0 : decode cX7_isAhead 0 = .ok (.aload_n 0, 1) := by decide +kernel
theorem dX7_isAhead_1 : decode cX7_isAhead 1 = .ok (.iload_n 1, 1) := by decide +kernel
theorem dX7_isAhead_2 : decode cX7_isAhead 2 = .ok (.bipush 6, 2) := by decide +kernel
theorem dX7_isAhead_4 : decode cX7_isAhead 4 = .ok (.invokevirtual 47, 3) := by decide +kernel
theorem dX7_isAhead_7 : decode cX7_isAhead 7 = .ok (.aload_n 0, 1) := by decide +kernel
theorem dX7_isAhead_8 : decode cX7_isAhead 8 = .ok (.iload_n 2, 1) := by decide +kernel
theorem dX7_isAhead_9 : decode cX7_isAhead 9 = .ok (.bipush 6, 2) := by decide +kernel
theorem dX7_isAhead_11 : decode cX7_isAhead 11 = .ok (.invokevirtual 47, 3) := by decide +kernel
theorem dX7_isAhead_14 : decode cX7_isAhead 14 = .ok (.isub, 1) := by decide +kernel
theorem dX7_isAhead_15 : decode cX7_isAhead 15 = .ok (.istore_n 3, 1) := by decide +kernel
theorem dX7_isAhead_16 : decode cX7_isAhead 16 = .ok (.aload_n 0, 1) := by decide +kernel
theorem dX7_isAhead_17 : decode cX7_isAhead 17 = .ok (.iload_n 2, 1) := by decide +kernel
theorem dX7_isAhead_18 : decode cX7_isAhead 18 = .ok (.iconst 5, 1) := by decide +kernel
theorem dX7_isAhead_19 : decode cX7_isAhead 19 = .ok (.invokevirtual 47, 3) := by decide +kernel
theorem dX7_isAhead_22 : decode cX7_isAhead 22 = .ok (.aload_n 0, 1) := by decide +kernel
theorem dX7_isAhead_23 : decode cX7_isAhead 23 = .ok (.iload_n 1, 1) := by decide +kernel
theorem dX7_isAhead_24 : decode cX7_isAhead 24 = .ok (.iconst 5, 1) := by decide +kernel
theorem dX7_isAhead_25 : decode cX7_isAhead 25 = .ok (.invokevirtual 47, 3) := by decide +kernel
theorem dX7_isAhead_28 : decode cX7_isAhead 28 = .ok (.isub, 1) := by decide +kernel
theorem dX7_isAhead_29 : decode cX7_isAhead 29 = .ok (.istore 4, 2) := by decide +kernel
theorem dX7_isAhead_31 : decode cX7_isAhead 31 = .ok (.iload_n 3, 1) := by decide +kernel
theorem dX7_isAhead_32 : decode cX7_isAhead 32 = .ok (.ifCond .gt 22, 3) := by decide +kernel
theorem dX7_isAhead_35 : decode cX7_isAhead 35 = .ok (.iload_n 3, 1) := by decide +kernel
theorem dX7_isAhead_36 : decode cX7_isAhead 36 = .ok (.ifCond .ne 22, 3) := by decide +kernel
theorem dX7_isAhead_39 : decode cX7_isAhead 39 = .ok (.iload 4, 2) := by decide +kernel
theorem dX7_isAhead_41 : decode cX7_isAhead 41 = .ok (.ifCond .gt 13, 3) := by decide +kernel
theorem dX7_isAhead_44 : decode cX7_isAhead 44 = .ok (.iload 4, 2) := by decide +kernel
theorem dX7_isAhead_46 : decode cX7_isAhead 46 = .ok (.ifCond .ne 12, 3) := by decide +kernel
theorem dX7_isAhead_49 : decode cX7_isAhead 49 = .ok (.iload_n 1, 1) := by decide +kernel
theorem dX7_isAhead_50 : decode cX7_isAhead 50 = .ok (.iload_n 2, 1) := by decide +kernel
theorem dX7_isAhead_51 : decode cX7_isAhead 51 = .ok (.if_icmp .ge 7, 3) := by decide +kernel
theorem dX7_isAhead_54 : decode cX7_isAhead 54 = .ok (.iconst 1, 1) := by decide +kernel
theorem dX7_isAhead_55 : decode cX7_isAhead 55 = .ok (.goto 4, 3) := by decide +kernel
theorem dX7_isAhead_58 : decode cX7_isAhead 58 = .ok (.iconst 0, 1) := by decide +kernel
theorem dX7_isAhead_59 : decode cX7_isAhead 59 = .ok (.ireturn, 1) := by decide +kernel
theorem dX7_rankOf_0 : decode cX7_rankOf 0 = .ok (.iconst 0, 1) := by decide +kernel
theorem dX7_rankOf_1 : decode cX7_rankOf 1 = .ok (.istore_n 2, 1) := by decide +kernel
theorem dX7_rankOf_2 : decode cX7_rankOf 2 = .ok (.iconst 0, 1) := by decide +kernel
theorem dX7_rankOf_3 : decode cX7_rankOf 3 = .ok (.istore_n 3, 1) := by decide +kernel
theorem dX7_rankOf_4 : decode cX7_rankOf 4 = .ok (.iload_n 3, 1) := by decide +kernel
theorem dX7_rankOf_5 : decode cX7_rankOf 5 = .ok (.aload_n 0, 1) := by decide +kernel
theorem dX7_rankOf_6 : decode cX7_rankOf 6 = .ok (.getfield 7, 3) := by decide +kernel
theorem dX7_rankOf_9 : decode cX7_rankOf 9 = .ok (.iconst 5, 1) := by decide +kernel
theorem dX7_rankOf_10 : decode cX7_rankOf 10 = .ok (.iaload, 1) := by decide +kernel
theorem dX7_rankOf_11 : decode cX7_rankOf 11 = .ok (.if_icmp .ge 31, 3) := by decide +kernel
theorem dX7_rankOf_14 : decode cX7_rankOf 14 = .ok (.iload_n 2, 1) := by decide +kernel
theorem dX7_rankOf_15 : decode cX7_rankOf 15 = .ok (.iload_n 3, 1) := by decide +kernel
theorem dX7_rankOf_16 : decode cX7_rankOf 16 = .ok (.iload_n 1, 1) := by decide +kernel
theorem dX7_rankOf_17 : decode cX7_rankOf 17 = .ok (.if_icmp .eq 16, 3) := by decide +kernel
theorem dX7_rankOf_20 : decode cX7_rankOf 20 = .ok (.aload_n 0, 1) := by decide +kernel
theorem dX7_rankOf_21 : decode cX7_rankOf 21 = .ok (.iload_n 3, 1) := by decide +kernel
theorem dX7_rankOf_22 : decode cX7_rankOf 22 = .ok (.iload_n 1, 1) := by decide +kernel
theorem dX7_rankOf_23 : decode cX7_rankOf 23 = .ok (.invokevirtual 50, 3) := by decide +kernel
theorem dX7_rankOf_26 : decode cX7_rankOf 26 = .ok (.ifCond .eq 7, 3) := by decide +kernel
theorem dX7_rankOf_29 : decode cX7_rankOf 29 = .ok (.iconst 1, 1) := by decide +kernel
theorem dX7_rankOf_30 : decode cX7_rankOf 30 = .ok (.goto 4, 3) := by decide +kernel
theorem dX7_rankOf_33 : decode cX7_rankOf 33 = .ok (.iconst 0, 1) := by decide +kernel
theorem dX7_rankOf_34 : decode cX7_rankOf 34 = .ok (.iadd, 1) := by decide +kernel
theorem dX7_rankOf_35 : decode cX7_rankOf 35 = .ok (.istore_n 2, 1) := by decide +kernel
theorem dX7_rankOf_36 : decode cX7_rankOf 36 = .ok (.iinc 3 1, 3) := by decide +kernel
theorem dX7_rankOf_39 : decode cX7_rankOf 39 = .ok (.goto (-35), 3) := by decide +kernel
theorem dX7_rankOf_42 : decode cX7_rankOf 42 = .ok (.iload_n 2, 1) := by decide +kernel
theorem dX7_rankOf_43 : decode cX7_rankOf 43 = .ok (.ireturn, 1) := by decide +kernel
theorem dX7_jobAt_0 : decode cX7_jobAt 0 = .ok (.iconst 0, 1) := by decide +kernel
theorem dX7_jobAt_1 : decode cX7_jobAt 1 = .ok (.istore_n 2, 1) := by decide +kernel
theorem dX7_jobAt_2 : decode cX7_jobAt 2 = .ok (.iload_n 2, 1) := by decide +kernel
theorem dX7_jobAt_3 : decode cX7_jobAt 3 = .ok (.aload_n 0, 1) := by decide +kernel
theorem dX7_jobAt_4 : decode cX7_jobAt 4 = .ok (.getfield 7, 3) := by decide +kernel
theorem dX7_jobAt_7 : decode cX7_jobAt 7 = .ok (.iconst 5, 1) := by decide +kernel
theorem dX7_jobAt_8 : decode cX7_jobAt 8 = .ok (.iaload, 1) := by decide +kernel
theorem dX7_jobAt_9 : decode cX7_jobAt 9 = .ok (.if_icmp .ge 20, 3) := by decide +kernel
theorem dX7_jobAt_12 : decode cX7_jobAt 12 = .ok (.aload_n 0, 1) := by decide +kernel
theorem dX7_jobAt_13 : decode cX7_jobAt 13 = .ok (.iload_n 2, 1) := by decide +kernel
theorem dX7_jobAt_14 : decode cX7_jobAt 14 = .ok (.invokevirtual 54, 3) := by decide +kernel
theorem dX7_jobAt_17 : decode cX7_jobAt 17 = .ok (.iload_n 1, 1) := by decide +kernel
theorem dX7_jobAt_18 : decode cX7_jobAt 18 = .ok (.if_icmp .ne 5, 3) := by decide +kernel
theorem dX7_jobAt_21 : decode cX7_jobAt 21 = .ok (.iload_n 2, 1) := by decide +kernel
theorem dX7_jobAt_22 : decode cX7_jobAt 22 = .ok (.ireturn, 1) := by decide +kernel
theorem dX7_jobAt_23 : decode cX7_jobAt 23 = .ok (.iinc 2 1, 3) := by decide +kernel
theorem dX7_jobAt_26 : decode cX7_jobAt 26 = .ok (.goto (-24), 3) := by decide +kernel
theorem dX7_jobAt_29 : decode cX7_jobAt 29 = .ok (.iconst (-1), 1) := by decide +kernel
theorem dX7_jobAt_30 : decode cX7_jobAt 30 = .ok (.ireturn, 1) := by decide +kernel
theorem dX7_jobOn_0 : decode cX7_jobOn 0 = .ok (.aload_n 0, 1) := by decide +kernel
theorem dX7_jobOn_1 : decode cX7_jobOn 1 = .ok (.iload_n 1, 1) := by decide +kernel
theorem dX7_jobOn_2 : decode cX7_jobOn 2 = .ok (.iconst 0, 1) := by decide +kernel
theorem dX7_jobOn_3 : decode cX7_jobOn 3 = .ok (.invokevirtual 58, 3) := by decide +kernel
theorem dX7_jobOn_6 : decode cX7_jobOn 6 = .ok (.ifCond .ne 7, 3) := by decide +kernel
theorem dX7_jobOn_9 : decode cX7_jobOn 9 = .ok (.iconst (-1), 1) := by decide +kernel
theorem dX7_jobOn_10 : decode cX7_jobOn 10 = .ok (.goto 15, 3) := by decide +kernel
theorem dX7_jobOn_13 : decode cX7_jobOn 13 = .ok (.aload_n 0, 1) := by decide +kernel
theorem dX7_jobOn_14 : decode cX7_jobOn 14 = .ok (.aload_n 0, 1) := by decide +kernel
theorem dX7_jobOn_15 : decode cX7_jobOn 15 = .ok (.iload_n 1, 1) := by decide +kernel
theorem dX7_jobOn_16 : decode cX7_jobOn 16 = .ok (.iconst 0, 1) := by decide +kernel
theorem dX7_jobOn_17 : decode cX7_jobOn 17 = .ok (.invokevirtual 58, 3) := by decide +kernel
theorem dX7_jobOn_20 : decode cX7_jobOn 20 = .ok (.iconst 1, 1) := by decide +kernel
theorem dX7_jobOn_21 : decode cX7_jobOn 21 = .ok (.isub, 1) := by decide +kernel
theorem dX7_jobOn_22 : decode cX7_jobOn 22 = .ok (.invokevirtual 61, 3) := by decide +kernel
theorem dX7_jobOn_25 : decode cX7_jobOn 25 = .ok (.ireturn, 1) := by decide +kernel
theorem dX7_billetsOf_0 : decode cX7_billetsOf 0 = .ok (.iconst 0, 1) := by decide +kernel
theorem dX7_billetsOf_1 : decode cX7_billetsOf 1 = .ok (.istore 4, 2) := by decide +kernel
theorem dX7_billetsOf_3 : decode cX7_billetsOf 3 = .ok (.iload_n 2, 1) := by decide +kernel
theorem dX7_billetsOf_4 : decode cX7_billetsOf 4 = .ok (.istore 5, 2) := by decide +kernel
theorem dX7_billetsOf_6 : decode cX7_billetsOf 6 = .ok (.iload 5, 2) := by decide +kernel
theorem dX7_billetsOf_8 : decode cX7_billetsOf 8 = .ok (.iload_n 3, 1) := by decide +kernel
theorem dX7_billetsOf_9 : decode cX7_billetsOf 9 = .ok (.if_icmp .gt 29, 3) := by decide +kernel
theorem dX7_billetsOf_12 : decode cX7_billetsOf 12 = .ok (.iload 4, 2) := by decide +kernel
theorem dX7_billetsOf_14 : decode cX7_billetsOf 14 = .ok (.aload_n 0, 1) := by decide +kernel
theorem dX7_billetsOf_15 : decode cX7_billetsOf 15 = .ok (.iload 5, 2) := by decide +kernel
theorem dX7_billetsOf_17 : decode cX7_billetsOf 17 = .ok (.invokevirtual 64, 3) := by decide +kernel
theorem dX7_billetsOf_20 : decode cX7_billetsOf 20 = .ok (.iload_n 1, 1) := by decide +kernel
theorem dX7_billetsOf_21 : decode cX7_billetsOf 21 = .ok (.if_icmp .ne 7, 3) := by decide +kernel
theorem dX7_billetsOf_24 : decode cX7_billetsOf 24 = .ok (.iconst 1, 1) := by decide +kernel
theorem dX7_billetsOf_25 : decode cX7_billetsOf 25 = .ok (.goto 4, 3) := by decide +kernel
theorem dX7_billetsOf_28 : decode cX7_billetsOf 28 = .ok (.iconst 0, 1) := by decide +kernel
theorem dX7_billetsOf_29 : decode cX7_billetsOf 29 = .ok (.iadd, 1) := by decide +kernel
theorem dX7_billetsOf_30 : decode cX7_billetsOf 30 = .ok (.istore 4, 2) := by decide +kernel
theorem dX7_billetsOf_32 : decode cX7_billetsOf 32 = .ok (.iinc 5 1, 3) := by decide +kernel
theorem dX7_billetsOf_35 : decode cX7_billetsOf 35 = .ok (.goto (-29), 3) := by decide +kernel
theorem dX7_billetsOf_38 : decode cX7_billetsOf 38 = .ok (.iload 4, 2) := by decide +kernel
theorem dX7_billetsOf_40 : decode cX7_billetsOf 40 = .ok (.ireturn, 1) := by decide +kernel
theorem dX7_lacks_0 : decode cX7_lacks 0 = .ok (.aload_n 0, 1) := by decide +kernel
theorem dX7_lacks_1 : decode cX7_lacks 1 = .ok (.iload_n 1, 1) := by decide +kernel
theorem dX7_lacks_2 : decode cX7_lacks 2 = .ok (.iconst 3, 1) := by decide +kernel
theorem dX7_lacks_3 : decode cX7_lacks 3 = .ok (.invokevirtual 47, 3) := by decide +kernel
theorem dX7_lacks_6 : decode cX7_lacks 6 = .ok (.aload_n 0, 1) := by decide +kernel
theorem dX7_lacks_7 : decode cX7_lacks 7 = .ok (.iload_n 1, 1) := by decide +kernel
theorem dX7_lacks_8 : decode cX7_lacks 8 = .ok (.iconst 4, 1) := by decide +kernel
theorem dX7_lacks_9 : decode cX7_lacks 9 = .ok (.invokevirtual 47, 3) := by decide +kernel
theorem dX7_lacks_12 : decode cX7_lacks 12 = .ok (.isub, 1) := by decide +kernel
theorem dX7_lacks_13 : decode cX7_lacks 13 = .ok (.aload_n 0, 1) := by decide +kernel
theorem dX7_lacks_14 : decode cX7_lacks 14 = .ok (.iload_n 1, 1) := by decide +kernel
theorem dX7_lacks_15 : decode cX7_lacks 15 = .ok (.iconst 0, 1) := by decide +kernel
theorem dX7_lacks_16 : decode cX7_lacks 16 = .ok (.bipush 6, 2) := by decide +kernel
theorem dX7_lacks_18 : decode cX7_lacks 18 = .ok (.invokevirtual 67, 3) := by decide +kernel
theorem dX7_lacks_21 : decode cX7_lacks 21 = .ok (.isub, 1) := by decide +kernel
theorem dX7_lacks_22 : decode cX7_lacks 22 = .ok (.ireturn, 1) := by decide +kernel
theorem dX7_freePlace_0 : decode cX7_freePlace 0 = .ok (.iconst 0, 1) := by decide +kernel
theorem dX7_freePlace_1 : decode cX7_freePlace 1 = .ok (.istore_n 1, 1) := by decide +kernel
theorem dX7_freePlace_2 : decode cX7_freePlace 2 = .ok (.iload_n 1, 1) := by decide +kernel
theorem dX7_freePlace_3 : decode cX7_freePlace 3 = .ok (.bipush 6, 2) := by decide +kernel
theorem dX7_freePlace_5 : decode cX7_freePlace 5 = .ok (.if_icmp .ge 20, 3) := by decide +kernel
theorem dX7_freePlace_8 : decode cX7_freePlace 8 = .ok (.aload_n 0, 1) := by decide +kernel
theorem dX7_freePlace_9 : decode cX7_freePlace 9 = .ok (.iload_n 1, 1) := by decide +kernel
theorem dX7_freePlace_10 : decode cX7_freePlace 10 = .ok (.iconst 0, 1) := by decide +kernel
theorem dX7_freePlace_11 : decode cX7_freePlace 11 = .ok (.invokevirtual 58, 3) := by decide +kernel
theorem dX7_freePlace_14 : decode cX7_freePlace 14 = .ok (.ifCond .ne 5, 3) := by decide +kernel
theorem dX7_freePlace_17 : decode cX7_freePlace 17 = .ok (.iload_n 1, 1) := by decide +kernel
theorem dX7_freePlace_18 : decode cX7_freePlace 18 = .ok (.ireturn, 1) := by decide +kernel
theorem dX7_freePlace_19 : decode cX7_freePlace 19 = .ok (.iinc 1 1, 3) := by decide +kernel
theorem dX7_freePlace_22 : decode cX7_freePlace 22 = .ok (.goto (-20), 3) := by decide +kernel
theorem dX7_freePlace_25 : decode cX7_freePlace 25 = .ok (.iconst (-1), 1) := by decide +kernel
theorem dX7_freePlace_26 : decode cX7_freePlace 26 = .ok (.ireturn, 1) := by decide +kernel
theorem dX7_clears_0 : decode cX7_clears 0 = .ok (.iconst 0, 1) := by decide +kernel
theorem dX7_clears_1 : decode cX7_clears 1 = .ok (.istore_n 2, 1) := by decide +kernel
theorem dX7_clears_2 : decode cX7_clears 2 = .ok (.iload_n 2, 1) := by decide +kernel
theorem dX7_clears_3 : decode cX7_clears 3 = .ok (.iconst 4, 1) := by decide +kernel
theorem dX7_clears_4 : decode cX7_clears 4 = .ok (.if_icmp .ge 16, 3) := by decide +kernel
theorem dX7_clears_7 : decode cX7_clears 7 = .ok (.aload_n 0, 1) := by decide +kernel
theorem dX7_clears_8 : decode cX7_clears 8 = .ok (.iload_n 1, 1) := by decide +kernel
theorem dX7_clears_9 : decode cX7_clears 9 = .ok (.iload_n 2, 1) := by decide +kernel
theorem dX7_clears_10 : decode cX7_clears 10 = .ok (.iconst 0, 1) := by decide +kernel
theorem dX7_clears_11 : decode cX7_clears 11 = .ok (.invokevirtual 71, 3) := by decide +kernel
theorem dX7_clears_14 : decode cX7_clears 14 = .ok (.iinc 2 1, 3) := by decide +kernel
theorem dX7_clears_17 : decode cX7_clears 17 = .ok (.goto (-15), 3) := by decide +kernel
theorem dX7_clears_20 : decode cX7_clears 20 = .ok (.return_, 1) := by decide +kernel
theorem dX7_moves_0 : decode cX7_moves 0 = .ok (.iconst 0, 1) := by decide +kernel
theorem dX7_moves_1 : decode cX7_moves 1 = .ok (.istore_n 3, 1) := by decide +kernel
theorem dX7_moves_2 : decode cX7_moves 2 = .ok (.iload_n 3, 1) := by decide +kernel
theorem dX7_moves_3 : decode cX7_moves 3 = .ok (.iconst 4, 1) := by decide +kernel
theorem dX7_moves_4 : decode cX7_moves 4 = .ok (.if_icmp .ge 21, 3) := by decide +kernel
theorem dX7_moves_7 : decode cX7_moves 7 = .ok (.aload_n 0, 1) := by decide +kernel
theorem dX7_moves_8 : decode cX7_moves 8 = .ok (.iload_n 2, 1) := by decide +kernel
theorem dX7_moves_9 : decode cX7_moves 9 = .ok (.iload_n 3, 1) := by decide +kernel
theorem dX7_moves_10 : decode cX7_moves 10 = .ok (.aload_n 0, 1) := by decide +kernel
theorem dX7_moves_11 : decode cX7_moves 11 = .ok (.iload_n 1, 1) := by decide +kernel
theorem dX7_moves_12 : decode cX7_moves 12 = .ok (.iload_n 3, 1) := by decide +kernel
theorem dX7_moves_13 : decode cX7_moves 13 = .ok (.invokevirtual 58, 3) := by decide +kernel
theorem dX7_moves_16 : decode cX7_moves 16 = .ok (.invokevirtual 71, 3) := by decide +kernel
theorem dX7_moves_19 : decode cX7_moves 19 = .ok (.iinc 3 1, 3) := by decide +kernel
theorem dX7_moves_22 : decode cX7_moves 22 = .ok (.goto (-20), 3) := by decide +kernel
theorem dX7_moves_25 : decode cX7_moves 25 = .ok (.aload_n 0, 1) := by decide +kernel
theorem dX7_moves_26 : decode cX7_moves 26 = .ok (.iload_n 1, 1) := by decide +kernel
theorem dX7_moves_27 : decode cX7_moves 27 = .ok (.invokevirtual 75, 3) := by decide +kernel
theorem dX7_moves_30 : decode cX7_moves 30 = .ok (.return_, 1) := by decide +kernel
theorem dX7_scraps_0 : decode cX7_scraps 0 = .ok (.aload_n 0, 1) := by decide +kernel
theorem dX7_scraps_1 : decode cX7_scraps 1 = .ok (.getfield 7, 3) := by decide +kernel
theorem dX7_scraps_4 : decode cX7_scraps 4 = .ok (.bipush 8, 2) := by decide +kernel
theorem dX7_scraps_6 : decode cX7_scraps 6 = .ok (.dup2, 1) := by decide +kernel
theorem dX7_scraps_7 : decode cX7_scraps 7 = .ok (.iaload, 1) := by decide +kernel
theorem dX7_scraps_8 : decode cX7_scraps 8 = .ok (.iconst 1, 1) := by decide +kernel
theorem dX7_scraps_9 : decode cX7_scraps 9 = .ok (.iadd, 1) := by decide +kernel
theorem dX7_scraps_10 : decode cX7_scraps 10 = .ok (.iastore, 1) := by decide +kernel
theorem dX7_scraps_11 : decode cX7_scraps 11 = .ok (.aload_n 0, 1) := by decide +kernel
theorem dX7_scraps_12 : decode cX7_scraps 12 = .ok (.getfield 7, 3) := by decide +kernel
theorem dX7_scraps_15 : decode cX7_scraps 15 = .ok (.bipush 15, 2) := by decide +kernel
theorem dX7_scraps_17 : decode cX7_scraps 17 = .ok (.iconst 5, 1) := by decide +kernel
theorem dX7_scraps_18 : decode cX7_scraps 18 = .ok (.aload_n 0, 1) := by decide +kernel
theorem dX7_scraps_19 : decode cX7_scraps 19 = .ok (.aload_n 0, 1) := by decide +kernel
theorem dX7_scraps_20 : decode cX7_scraps 20 = .ok (.iload_n 1, 1) := by decide +kernel
theorem dX7_scraps_21 : decode cX7_scraps 21 = .ok (.invokevirtual 64, 3) := by decide +kernel
theorem dX7_scraps_24 : decode cX7_scraps 24 = .ok (.iconst 2, 1) := by decide +kernel
theorem dX7_scraps_25 : decode cX7_scraps 25 = .ok (.invokevirtual 47, 3) := by decide +kernel
theorem dX7_scraps_28 : decode cX7_scraps 28 = .ok (.imul, 1) := by decide +kernel
theorem dX7_scraps_29 : decode cX7_scraps 29 = .ok (.iadd, 1) := by decide +kernel
theorem dX7_scraps_30 : decode cX7_scraps 30 = .ok (.iconst 4, 1) := by decide +kernel
theorem dX7_scraps_31 : decode cX7_scraps 31 = .ok (.iadd, 1) := by decide +kernel
theorem dX7_scraps_32 : decode cX7_scraps 32 = .ok (.dup2, 1) := by decide +kernel
theorem dX7_scraps_33 : decode cX7_scraps 33 = .ok (.iaload, 1) := by decide +kernel
theorem dX7_scraps_34 : decode cX7_scraps 34 = .ok (.iconst 1, 1) := by decide +kernel
theorem dX7_scraps_35 : decode cX7_scraps 35 = .ok (.iadd, 1) := by decide +kernel
theorem dX7_scraps_36 : decode cX7_scraps 36 = .ok (.iastore, 1) := by decide +kernel
theorem dX7_scraps_37 : decode cX7_scraps 37 = .ok (.aload_n 0, 1) := by decide +kernel
theorem dX7_scraps_38 : decode cX7_scraps 38 = .ok (.iload_n 1, 1) := by decide +kernel
theorem dX7_scraps_39 : decode cX7_scraps 39 = .ok (.invokevirtual 75, 3) := by decide +kernel
theorem dX7_scraps_42 : decode cX7_scraps 42 = .ok (.return_, 1) := by decide +kernel
theorem dX7_dropsJob_0 : decode cX7_dropsJob 0 = .ok (.bipush 60, 2) := by decide +kernel
theorem dX7_dropsJob_2 : decode cX7_dropsJob 2 = .ok (.bipush 7, 2) := by decide +kernel
theorem dX7_dropsJob_4 : decode cX7_dropsJob 4 = .ok (.aload_n 0, 1) := by decide +kernel
theorem dX7_dropsJob_5 : decode cX7_dropsJob 5 = .ok (.getfield 7, 3) := by decide +kernel
theorem dX7_dropsJob_8 : decode cX7_dropsJob 8 = .ok (.iconst 5, 1) := by decide +kernel
theorem dX7_dropsJob_9 : decode cX7_dropsJob 9 = .ok (.iaload, 1) := by decide +kernel
theorem dX7_dropsJob_10 : decode cX7_dropsJob 10 = .ok (.iconst 1, 1) := by decide +kernel
theorem dX7_dropsJob_11 : decode cX7_dropsJob 11 = .ok (.isub, 1) := by decide +kernel
theorem dX7_dropsJob_12 : decode cX7_dropsJob 12 = .ok (.imul, 1) := by decide +kernel
theorem dX7_dropsJob_13 : decode cX7_dropsJob 13 = .ok (.iadd, 1) := by decide +kernel
theorem dX7_dropsJob_14 : decode cX7_dropsJob 14 = .ok (.istore_n 2, 1) := by decide +kernel
theorem dX7_dropsJob_15 : decode cX7_dropsJob 15 = .ok (.bipush 60, 2) := by decide +kernel
theorem dX7_dropsJob_17 : decode cX7_dropsJob 17 = .ok (.bipush 7, 2) := by decide +kernel
theorem dX7_dropsJob_19 : decode cX7_dropsJob 19 = .ok (.iload_n 1, 1) := by decide +kernel
theorem dX7_dropsJob_20 : decode cX7_dropsJob 20 = .ok (.imul, 1) := by decide +kernel
theorem dX7_dropsJob_21 : decode cX7_dropsJob 21 = .ok (.iadd, 1) := by decide +kernel
theorem dX7_dropsJob_22 : decode cX7_dropsJob 22 = .ok (.istore_n 3, 1) := by decide +kernel
theorem dX7_dropsJob_23 : decode cX7_dropsJob 23 = .ok (.iload_n 3, 1) := by decide +kernel
theorem dX7_dropsJob_24 : decode cX7_dropsJob 24 = .ok (.iload_n 2, 1) := by decide +kernel
theorem dX7_dropsJob_25 : decode cX7_dropsJob 25 = .ok (.if_icmp .ge 24, 3) := by decide +kernel
theorem dX7_dropsJob_28 : decode cX7_dropsJob 28 = .ok (.aload_n 0, 1) := by decide +kernel
theorem dX7_dropsJob_29 : decode cX7_dropsJob 29 = .ok (.getfield 7, 3) := by decide +kernel
theorem dX7_dropsJob_32 : decode cX7_dropsJob 32 = .ok (.iload_n 3, 1) := by decide +kernel
theorem dX7_dropsJob_33 : decode cX7_dropsJob 33 = .ok (.aload_n 0, 1) := by decide +kernel
theorem dX7_dropsJob_34 : decode cX7_dropsJob 34 = .ok (.getfield 7, 3) := by decide +kernel
theorem dX7_dropsJob_37 : decode cX7_dropsJob 37 = .ok (.iload_n 3, 1) := by decide +kernel
theorem dX7_dropsJob_38 : decode cX7_dropsJob 38 = .ok (.bipush 7, 2) := by decide +kernel
theorem dX7_dropsJob_40 : decode cX7_dropsJob 40 = .ok (.iadd, 1) := by decide +kernel
theorem dX7_dropsJob_41 : decode cX7_dropsJob 41 = .ok (.iaload, 1) := by decide +kernel
theorem dX7_dropsJob_42 : decode cX7_dropsJob 42 = .ok (.iastore, 1) := by decide +kernel
theorem dX7_dropsJob_43 : decode cX7_dropsJob 43 = .ok (.iinc 3 1, 3) := by decide +kernel
theorem dX7_dropsJob_46 : decode cX7_dropsJob 46 = .ok (.goto (-23), 3) := by decide +kernel
theorem dX7_dropsJob_49 : decode cX7_dropsJob 49 = .ok (.iconst 0, 1) := by decide +kernel
theorem dX7_dropsJob_50 : decode cX7_dropsJob 50 = .ok (.istore_n 3, 1) := by decide +kernel
theorem dX7_dropsJob_51 : decode cX7_dropsJob 51 = .ok (.iload_n 3, 1) := by decide +kernel
theorem dX7_dropsJob_52 : decode cX7_dropsJob 52 = .ok (.bipush 7, 2) := by decide +kernel
theorem dX7_dropsJob_54 : decode cX7_dropsJob 54 = .ok (.if_icmp .ge 18, 3) := by decide +kernel
theorem dX7_dropsJob_57 : decode cX7_dropsJob 57 = .ok (.aload_n 0, 1) := by decide +kernel
theorem dX7_dropsJob_58 : decode cX7_dropsJob 58 = .ok (.getfield 7, 3) := by decide +kernel
theorem dX7_dropsJob_61 : decode cX7_dropsJob 61 = .ok (.iload_n 2, 1) := by decide +kernel
theorem dX7_dropsJob_62 : decode cX7_dropsJob 62 = .ok (.iload_n 3, 1) := by decide +kernel
theorem dX7_dropsJob_63 : decode cX7_dropsJob 63 = .ok (.iadd, 1) := by decide +kernel
theorem dX7_dropsJob_64 : decode cX7_dropsJob 64 = .ok (.iconst 0, 1) := by decide +kernel
theorem dX7_dropsJob_65 : decode cX7_dropsJob 65 = .ok (.iastore, 1) := by decide +kernel
theorem dX7_dropsJob_66 : decode cX7_dropsJob 66 = .ok (.iinc 3 1, 3) := by decide +kernel
theorem dX7_dropsJob_69 : decode cX7_dropsJob 69 = .ok (.goto (-18), 3) := by decide +kernel
theorem dX7_dropsJob_72 : decode cX7_dropsJob 72 = .ok (.aload_n 0, 1) := by decide +kernel
theorem dX7_dropsJob_73 : decode cX7_dropsJob 73 = .ok (.getfield 7, 3) := by decide +kernel
theorem dX7_dropsJob_76 : decode cX7_dropsJob 76 = .ok (.iconst 5, 1) := by decide +kernel
theorem dX7_dropsJob_77 : decode cX7_dropsJob 77 = .ok (.dup2, 1) := by decide +kernel
theorem dX7_dropsJob_78 : decode cX7_dropsJob 78 = .ok (.iaload, 1) := by decide +kernel
theorem dX7_dropsJob_79 : decode cX7_dropsJob 79 = .ok (.iconst 1, 1) := by decide +kernel
theorem dX7_dropsJob_80 : decode cX7_dropsJob 80 = .ok (.isub, 1) := by decide +kernel
theorem dX7_dropsJob_81 : decode cX7_dropsJob 81 = .ok (.iastore, 1) := by decide +kernel
theorem dX7_dropsJob_82 : decode cX7_dropsJob 82 = .ok (.return_, 1) := by decide +kernel
theorem dX7_warms_0 : decode cX7_warms 0 = .ok (.iconst 0, 1) := by decide +kernel
theorem dX7_warms_1 : decode cX7_warms 1 = .ok (.istore_n 1, 1) := by decide +kernel
theorem dX7_warms_2 : decode cX7_warms 2 = .ok (.iload_n 1, 1) := by decide +kernel
theorem dX7_warms_3 : decode cX7_warms 3 = .ok (.bipush 6, 2) := by decide +kernel
theorem dX7_warms_5 : decode cX7_warms 5 = .ok (.if_icmp .ge 52, 3) := by decide +kernel
theorem dX7_warms_8 : decode cX7_warms 8 = .ok (.aload_n 0, 1) := by decide +kernel
theorem dX7_warms_9 : decode cX7_warms 9 = .ok (.iload_n 1, 1) := by decide +kernel
theorem dX7_warms_10 : decode cX7_warms 10 = .ok (.iconst 1, 1) := by decide +kernel
theorem dX7_warms_11 : decode cX7_warms 11 = .ok (.invokevirtual 58, 3) := by decide +kernel
theorem dX7_warms_14 : decode cX7_warms 14 = .ok (.aload_n 0, 1) := by decide +kernel
theorem dX7_warms_15 : decode cX7_warms 15 = .ok (.getfield 7, 3) := by decide +kernel
theorem dX7_warms_18 : decode cX7_warms 18 = .ok (.iconst 0, 1) := by decide +kernel
theorem dX7_warms_19 : decode cX7_warms 19 = .ok (.iaload, 1) := by decide +kernel
theorem dX7_warms_20 : decode cX7_warms 20 = .ok (.iadd, 1) := by decide +kernel
theorem dX7_warms_21 : decode cX7_warms 21 = .ok (.istore_n 2, 1) := by decide +kernel
theorem dX7_warms_22 : decode cX7_warms 22 = .ok (.aload_n 0, 1) := by decide +kernel
theorem dX7_warms_23 : decode cX7_warms 23 = .ok (.iload_n 1, 1) := by decide +kernel
theorem dX7_warms_24 : decode cX7_warms 24 = .ok (.iconst 0, 1) := by decide +kernel
theorem dX7_warms_25 : decode cX7_warms 25 = .ok (.invokevirtual 58, 3) := by decide +kernel
theorem dX7_warms_28 : decode cX7_warms 28 = .ok (.ifCond .le 23, 3) := by decide +kernel
theorem dX7_warms_31 : decode cX7_warms 31 = .ok (.aload_n 0, 1) := by decide +kernel
theorem dX7_warms_32 : decode cX7_warms 32 = .ok (.iload_n 1, 1) := by decide +kernel
theorem dX7_warms_33 : decode cX7_warms 33 = .ok (.iconst 1, 1) := by decide +kernel
theorem dX7_warms_34 : decode cX7_warms 34 = .ok (.iload_n 2, 1) := by decide +kernel
theorem dX7_warms_35 : decode cX7_warms 35 = .ok (.sipush 1250, 3) := by decide +kernel
theorem dX7_warms_38 : decode cX7_warms 38 = .ok (.if_icmp .le 9, 3) := by decide +kernel
theorem dX7_warms_41 : decode cX7_warms 41 = .ok (.sipush 1250, 3) := by decide +kernel
theorem dX7_warms_44 : decode cX7_warms 44 = .ok (.goto 4, 3) := by decide +kernel
theorem dX7_warms_47 : decode cX7_warms 47 = .ok (.iload_n 2, 1) := by decide +kernel
theorem dX7_warms_48 : decode cX7_warms 48 = .ok (.invokevirtual 71, 3) := by decide +kernel
theorem dX7_warms_51 : decode cX7_warms 51 = .ok (.iinc 1 1, 3) := by decide +kernel
theorem dX7_warms_54 : decode cX7_warms 54 = .ok (.goto (-52), 3) := by decide +kernel
theorem dX7_warms_57 : decode cX7_warms 57 = .ok (.return_, 1) := by decide +kernel
theorem dX7_loads_0 : decode cX7_loads 0 = .ok (.aload_n 0, 1) := by decide +kernel
theorem dX7_loads_1 : decode cX7_loads 1 = .ok (.invokevirtual 79, 3) := by decide +kernel
theorem dX7_loads_4 : decode cX7_loads 4 = .ok (.istore_n 1, 1) := by decide +kernel
theorem dX7_loads_5 : decode cX7_loads 5 = .ok (.iload_n 1, 1) := by decide +kernel
theorem dX7_loads_6 : decode cX7_loads 6 = .ok (.iconst (-1), 1) := by decide +kernel
theorem dX7_loads_7 : decode cX7_loads 7 = .ok (.if_icmp .eq 7, 3) := by decide +kernel
theorem dX7_loads_10 : decode cX7_loads 10 = .ok (.iconst 1, 1) := by decide +kernel
theorem dX7_loads_11 : decode cX7_loads 11 = .ok (.goto 4, 3) := by decide +kernel
theorem dX7_loads_14 : decode cX7_loads 14 = .ok (.iconst 0, 1) := by decide +kernel
theorem dX7_loads_15 : decode cX7_loads 15 = .ok (.istore_n 2, 1) := by decide +kernel
theorem dX7_loads_16 : decode cX7_loads 16 = .ok (.iconst 0, 1) := by decide +kernel
theorem dX7_loads_17 : decode cX7_loads 17 = .ok (.istore_n 3, 1) := by decide +kernel
theorem dX7_loads_18 : decode cX7_loads 18 = .ok (.iload_n 3, 1) := by decide +kernel
theorem dX7_loads_19 : decode cX7_loads 19 = .ok (.aload_n 0, 1) := by decide +kernel
theorem dX7_loads_20 : decode cX7_loads 20 = .ok (.getfield 7, 3) := by decide +kernel
theorem dX7_loads_23 : decode cX7_loads 23 = .ok (.iconst 5, 1) := by decide +kernel
theorem dX7_loads_24 : decode cX7_loads 24 = .ok (.iaload, 1) := by decide +kernel
theorem dX7_loads_25 : decode cX7_loads 25 = .ok (.if_icmp .ge 116, 3) := by decide +kernel
theorem dX7_loads_28 : decode cX7_loads 28 = .ok (.iload_n 2, 1) := by decide +kernel
theorem dX7_loads_29 : decode cX7_loads 29 = .ok (.ifCond .eq 112, 3) := by decide +kernel
theorem dX7_loads_32 : decode cX7_loads 32 = .ok (.aload_n 0, 1) := by decide +kernel
theorem dX7_loads_33 : decode cX7_loads 33 = .ok (.iload_n 3, 1) := by decide +kernel
theorem dX7_loads_34 : decode cX7_loads 34 = .ok (.invokevirtual 83, 3) := by decide +kernel
theorem dX7_loads_37 : decode cX7_loads 37 = .ok (.istore 4, 2) := by decide +kernel
theorem dX7_loads_39 : decode cX7_loads 39 = .ok (.aload_n 0, 1) := by decide +kernel
theorem dX7_loads_40 : decode cX7_loads 40 = .ok (.iload 4, 2) := by decide +kernel
theorem dX7_loads_42 : decode cX7_loads 42 = .ok (.iconst 2, 1) := by decide +kernel
theorem dX7_loads_43 : decode cX7_loads 43 = .ok (.invokevirtual 47, 3) := by decide +kernel
theorem dX7_loads_46 : decode cX7_loads 46 = .ok (.istore 5, 2) := by decide +kernel
theorem dX7_loads_48 : decode cX7_loads 48 = .ok (.aload_n 0, 1) := by decide +kernel
theorem dX7_loads_49 : decode cX7_loads 49 = .ok (.iload 4, 2) := by decide +kernel
theorem dX7_loads_51 : decode cX7_loads 51 = .ok (.invokevirtual 86, 3) := by decide +kernel
theorem dX7_loads_54 : decode cX7_loads 54 = .ok (.ifCond .le 81, 3) := by decide +kernel
theorem dX7_loads_57 : decode cX7_loads 57 = .ok (.aload_n 0, 1) := by decide +kernel
theorem dX7_loads_58 : decode cX7_loads 58 = .ok (.iload 5, 2) := by decide +kernel
theorem dX7_loads_60 : decode cX7_loads 60 = .ok (.iconst 0, 1) := by decide +kernel
theorem dX7_loads_61 : decode cX7_loads 61 = .ok (.invokevirtual 89, 3) := by decide +kernel
theorem dX7_loads_64 : decode cX7_loads 64 = .ok (.ifCond .le 71, 3) := by decide +kernel
theorem dX7_loads_67 : decode cX7_loads 67 = .ok (.aload_n 0, 1) := by decide +kernel
theorem dX7_loads_68 : decode cX7_loads 68 = .ok (.getfield 7, 3) := by decide +kernel
theorem dX7_loads_71 : decode cX7_loads 71 = .ok (.bipush 15, 2) := by decide +kernel
theorem dX7_loads_73 : decode cX7_loads 73 = .ok (.iconst 5, 1) := by decide +kernel
theorem dX7_loads_74 : decode cX7_loads 74 = .ok (.iload 5, 2) := by decide +kernel
theorem dX7_loads_76 : decode cX7_loads 76 = .ok (.imul, 1) := by decide +kernel
theorem dX7_loads_77 : decode cX7_loads 77 = .ok (.iadd, 1) := by decide +kernel
theorem dX7_loads_78 : decode cX7_loads 78 = .ok (.iconst 0, 1) := by decide +kernel
theorem dX7_loads_79 : decode cX7_loads 79 = .ok (.iadd, 1) := by decide +kernel
theorem dX7_loads_80 : decode cX7_loads 80 = .ok (.dup2, 1) := by decide +kernel
theorem dX7_loads_81 : decode cX7_loads 81 = .ok (.iaload, 1) := by decide +kernel
theorem dX7_loads_82 : decode cX7_loads 82 = .ok (.iconst 1, 1) := by decide +kernel
theorem dX7_loads_83 : decode cX7_loads 83 = .ok (.isub, 1) := by decide +kernel
theorem dX7_loads_84 : decode cX7_loads 84 = .ok (.iastore, 1) := by decide +kernel
theorem dX7_loads_85 : decode cX7_loads 85 = .ok (.aload_n 0, 1) := by decide +kernel
theorem dX7_loads_86 : decode cX7_loads 86 = .ok (.iload_n 1, 1) := by decide +kernel
theorem dX7_loads_87 : decode cX7_loads 87 = .ok (.iconst 0, 1) := by decide +kernel
theorem dX7_loads_88 : decode cX7_loads 88 = .ok (.aload_n 0, 1) := by decide +kernel
theorem dX7_loads_89 : decode cX7_loads 89 = .ok (.iload 4, 2) := by decide +kernel
theorem dX7_loads_91 : decode cX7_loads 91 = .ok (.iconst 0, 1) := by decide +kernel
theorem dX7_loads_92 : decode cX7_loads 92 = .ok (.invokevirtual 47, 3) := by decide +kernel
theorem dX7_loads_95 : decode cX7_loads 95 = .ok (.iconst 1, 1) := by decide +kernel
theorem dX7_loads_96 : decode cX7_loads 96 = .ok (.iadd, 1) := by decide +kernel
theorem dX7_loads_97 : decode cX7_loads 97 = .ok (.invokevirtual 71, 3) := by decide +kernel
theorem dX7_loads_100 : decode cX7_loads 100 = .ok (.aload_n 0, 1) := by decide +kernel
theorem dX7_loads_101 : decode cX7_loads 101 = .ok (.iload_n 1, 1) := by decide +kernel
theorem dX7_loads_102 : decode cX7_loads 102 = .ok (.iconst 1, 1) := by decide +kernel
theorem dX7_loads_103 : decode cX7_loads 103 = .ok (.bipush 20, 2) := by decide +kernel
theorem dX7_loads_105 : decode cX7_loads 105 = .ok (.invokevirtual 71, 3) := by decide +kernel
theorem dX7_loads_108 : decode cX7_loads 108 = .ok (.aload_n 0, 1) := by decide +kernel
theorem dX7_loads_109 : decode cX7_loads 109 = .ok (.iload_n 1, 1) := by decide +kernel
theorem dX7_loads_110 : decode cX7_loads 110 = .ok (.iconst 2, 1) := by decide +kernel
theorem dX7_loads_111 : decode cX7_loads 111 = .ok (.iconst 0, 1) := by decide +kernel
theorem dX7_loads_112 : decode cX7_loads 112 = .ok (.invokevirtual 71, 3) := by decide +kernel
theorem dX7_loads_115 : decode cX7_loads 115 = .ok (.aload_n 0, 1) := by decide +kernel
theorem dX7_loads_116 : decode cX7_loads 116 = .ok (.iload_n 1, 1) := by decide +kernel
theorem dX7_loads_117 : decode cX7_loads 117 = .ok (.iconst 3, 1) := by decide +kernel
theorem dX7_loads_118 : decode cX7_loads 118 = .ok (.aload_n 0, 1) := by decide +kernel
theorem dX7_loads_119 : decode cX7_loads 119 = .ok (.aload_n 0, 1) := by decide +kernel
theorem dX7_loads_120 : decode cX7_loads 120 = .ok (.iload 4, 2) := by decide +kernel
theorem dX7_loads_122 : decode cX7_loads 122 = .ok (.iconst 1, 1) := by decide +kernel
theorem dX7_loads_123 : decode cX7_loads 123 = .ok (.invokevirtual 47, 3) := by decide +kernel
theorem dX7_loads_126 : decode cX7_loads 126 = .ok (.iconst 0, 1) := by decide +kernel
theorem dX7_loads_127 : decode cX7_loads 127 = .ok (.invokevirtual 36, 3) := by decide +kernel
theorem dX7_loads_130 : decode cX7_loads 130 = .ok (.invokevirtual 71, 3) := by decide +kernel
theorem dX7_loads_133 : decode cX7_loads 133 = .ok (.iconst 0, 1) := by decide +kernel
theorem dX7_loads_134 : decode cX7_loads 134 = .ok (.istore_n 2, 1) := by decide +kernel
theorem dX7_loads_135 : decode cX7_loads 135 = .ok (.iinc 3 1, 3) := by decide +kernel
theorem dX7_loads_138 : decode cX7_loads 138 = .ok (.goto (-120), 3) := by decide +kernel
theorem dX7_loads_141 : decode cX7_loads 141 = .ok (.return_, 1) := by decide +kernel
theorem dX7_goesBack_0 : decode cX7_goesBack 0 = .ok (.aload_n 0, 1) := by decide +kernel
theorem dX7_goesBack_1 : decode cX7_goesBack 1 = .ok (.bipush 6, 2) := by decide +kernel
theorem dX7_goesBack_3 : decode cX7_goesBack 3 = .ok (.iconst 2, 1) := by decide +kernel
theorem dX7_goesBack_4 : decode cX7_goesBack 4 = .ok (.aload_n 0, 1) := by decide +kernel
theorem dX7_goesBack_5 : decode cX7_goesBack 5 = .ok (.bipush 6, 2) := by decide +kernel
theorem dX7_goesBack_7 : decode cX7_goesBack 7 = .ok (.iconst 2, 1) := by decide +kernel
theorem dX7_goesBack_8 : decode cX7_goesBack 8 = .ok (.invokevirtual 58, 3) := by decide +kernel
theorem dX7_goesBack_11 : decode cX7_goesBack 11 = .ok (.iconst 1, 1) := by decide +kernel
theorem dX7_goesBack_12 : decode cX7_goesBack 12 = .ok (.iadd, 1) := by decide +kernel
theorem dX7_goesBack_13 : decode cX7_goesBack 13 = .ok (.invokevirtual 71, 3) := by decide +kernel
theorem dX7_goesBack_16 : decode cX7_goesBack 16 = .ok (.aload_n 0, 1) := by decide +kernel
theorem dX7_goesBack_17 : decode cX7_goesBack 17 = .ok (.invokevirtual 79, 3) := by decide +kernel
theorem dX7_goesBack_20 : decode cX7_goesBack 20 = .ok (.istore_n 1, 1) := by decide +kernel
theorem dX7_goesBack_21 : decode cX7_goesBack 21 = .ok (.aload_n 0, 1) := by decide +kernel
theorem dX7_goesBack_22 : decode cX7_goesBack 22 = .ok (.bipush 6, 2) := by decide +kernel
theorem dX7_goesBack_24 : decode cX7_goesBack 24 = .ok (.iconst 2, 1) := by decide +kernel
theorem dX7_goesBack_25 : decode cX7_goesBack 25 = .ok (.invokevirtual 58, 3) := by decide +kernel
theorem dX7_goesBack_28 : decode cX7_goesBack 28 = .ok (.aload_n 0, 1) := by decide +kernel
theorem dX7_goesBack_29 : decode cX7_goesBack 29 = .ok (.getfield 7, 3) := by decide +kernel
theorem dX7_goesBack_32 : decode cX7_goesBack 32 = .ok (.iconst 2, 1) := by decide +kernel
theorem dX7_goesBack_33 : decode cX7_goesBack 33 = .ok (.iaload, 1) := by decide +kernel
theorem dX7_goesBack_34 : decode cX7_goesBack 34 = .ok (.if_icmp .gt 8, 3) := by decide +kernel
theorem dX7_goesBack_37 : decode cX7_goesBack 37 = .ok (.iload_n 1, 1) := by decide +kernel
theorem dX7_goesBack_38 : decode cX7_goesBack 38 = .ok (.iconst (-1), 1) := by decide +kernel
theorem dX7_goesBack_39 : decode cX7_goesBack 39 = .ok (.if_icmp .ne 12, 3) := by decide +kernel
theorem dX7_goesBack_42 : decode cX7_goesBack 42 = .ok (.aload_n 0, 1) := by decide +kernel
theorem dX7_goesBack_43 : decode cX7_goesBack 43 = .ok (.bipush 6, 2) := by decide +kernel
theorem dX7_goesBack_45 : decode cX7_goesBack 45 = .ok (.invokevirtual 92, 3) := by decide +kernel
theorem dX7_goesBack_48 : decode cX7_goesBack 48 = .ok (.goto 10, 3) := by decide +kernel
theorem dX7_goesBack_51 : decode cX7_goesBack 51 = .ok (.aload_n 0, 1) := by decide +kernel
theorem dX7_goesBack_52 : decode cX7_goesBack 52 = .ok (.bipush 6, 2) := by decide +kernel
theorem dX7_goesBack_54 : decode cX7_goesBack 54 = .ok (.iload_n 1, 1) := by decide +kernel
theorem dX7_goesBack_55 : decode cX7_goesBack 55 = .ok (.invokevirtual 95, 3) := by decide +kernel
theorem dX7_goesBack_58 : decode cX7_goesBack 58 = .ok (.return_, 1) := by decide +kernel
theorem dX7_makes_0 : decode cX7_makes 0 = .ok (.aload_n 0, 1) := by decide +kernel
theorem dX7_makes_1 : decode cX7_makes 1 = .ok (.bipush 6, 2) := by decide +kernel
theorem dX7_makes_3 : decode cX7_makes 3 = .ok (.invokevirtual 75, 3) := by decide +kernel
theorem dX7_makes_6 : decode cX7_makes 6 = .ok (.aload_n 0, 1) := by decide +kernel
theorem dX7_makes_7 : decode cX7_makes 7 = .ok (.getfield 7, 3) := by decide +kernel
theorem dX7_makes_10 : decode cX7_makes 10 = .ok (.bipush 7, 2) := by decide +kernel
theorem dX7_makes_12 : decode cX7_makes 12 = .ok (.dup2, 1) := by decide +kernel
theorem dX7_makes_13 : decode cX7_makes 13 = .ok (.iaload, 1) := by decide +kernel
theorem dX7_makes_14 : decode cX7_makes 14 = .ok (.iconst 1, 1) := by decide +kernel
theorem dX7_makes_15 : decode cX7_makes 15 = .ok (.iadd, 1) := by decide +kernel
theorem dX7_makes_16 : decode cX7_makes 16 = .ok (.iastore, 1) := by decide +kernel
theorem dX7_makes_17 : decode cX7_makes 17 = .ok (.aload_n 0, 1) := by decide +kernel
theorem dX7_makes_18 : decode cX7_makes 18 = .ok (.getfield 7, 3) := by decide +kernel
theorem dX7_makes_21 : decode cX7_makes 21 = .ok (.bipush 15, 2) := by decide +kernel
theorem dX7_makes_23 : decode cX7_makes 23 = .ok (.iconst 5, 1) := by decide +kernel
theorem dX7_makes_24 : decode cX7_makes 24 = .ok (.aload_n 0, 1) := by decide +kernel
theorem dX7_makes_25 : decode cX7_makes 25 = .ok (.iload_n 1, 1) := by decide +kernel
theorem dX7_makes_26 : decode cX7_makes 26 = .ok (.iconst 2, 1) := by decide +kernel
theorem dX7_makes_27 : decode cX7_makes 27 = .ok (.invokevirtual 47, 3) := by decide +kernel
theorem dX7_makes_30 : decode cX7_makes 30 = .ok (.imul, 1) := by decide +kernel
theorem dX7_makes_31 : decode cX7_makes 31 = .ok (.iadd, 1) := by decide +kernel
theorem dX7_makes_32 : decode cX7_makes 32 = .ok (.iconst 3, 1) := by decide +kernel
theorem dX7_makes_33 : decode cX7_makes 33 = .ok (.iadd, 1) := by decide +kernel
theorem dX7_makes_34 : decode cX7_makes 34 = .ok (.dup2, 1) := by decide +kernel
theorem dX7_makes_35 : decode cX7_makes 35 = .ok (.iaload, 1) := by decide +kernel
theorem dX7_makes_36 : decode cX7_makes 36 = .ok (.iconst 1, 1) := by decide +kernel
theorem dX7_makes_37 : decode cX7_makes 37 = .ok (.iadd, 1) := by decide +kernel
theorem dX7_makes_38 : decode cX7_makes 38 = .ok (.iastore, 1) := by decide +kernel
theorem dX7_makes_39 : decode cX7_makes 39 = .ok (.aload_n 0, 1) := by decide +kernel
theorem dX7_makes_40 : decode cX7_makes 40 = .ok (.getfield 7, 3) := by decide +kernel
theorem dX7_makes_43 : decode cX7_makes 43 = .ok (.bipush 35, 2) := by decide +kernel
theorem dX7_makes_45 : decode cX7_makes 45 = .ok (.iconst 5, 1) := by decide +kernel
theorem dX7_makes_46 : decode cX7_makes 46 = .ok (.aload_n 0, 1) := by decide +kernel
theorem dX7_makes_47 : decode cX7_makes 47 = .ok (.iload_n 1, 1) := by decide +kernel
theorem dX7_makes_48 : decode cX7_makes 48 = .ok (.iconst 1, 1) := by decide +kernel
theorem dX7_makes_49 : decode cX7_makes 49 = .ok (.invokevirtual 47, 3) := by decide +kernel
theorem dX7_makes_52 : decode cX7_makes 52 = .ok (.imul, 1) := by decide +kernel
theorem dX7_makes_53 : decode cX7_makes 53 = .ok (.iadd, 1) := by decide +kernel
theorem dX7_makes_54 : decode cX7_makes 54 = .ok (.iconst 3, 1) := by decide +kernel
theorem dX7_makes_55 : decode cX7_makes 55 = .ok (.iadd, 1) := by decide +kernel
theorem dX7_makes_56 : decode cX7_makes 56 = .ok (.dup2, 1) := by decide +kernel
theorem dX7_makes_57 : decode cX7_makes 57 = .ok (.iaload, 1) := by decide +kernel
theorem dX7_makes_58 : decode cX7_makes 58 = .ok (.iconst 1, 1) := by decide +kernel
theorem dX7_makes_59 : decode cX7_makes 59 = .ok (.iadd, 1) := by decide +kernel
theorem dX7_makes_60 : decode cX7_makes 60 = .ok (.iastore, 1) := by decide +kernel
theorem dX7_makes_61 : decode cX7_makes 61 = .ok (.aload_n 0, 1) := by decide +kernel
theorem dX7_makes_62 : decode cX7_makes 62 = .ok (.getfield 7, 3) := by decide +kernel
theorem dX7_makes_65 : decode cX7_makes 65 = .ok (.bipush 60, 2) := by decide +kernel
theorem dX7_makes_67 : decode cX7_makes 67 = .ok (.bipush 7, 2) := by decide +kernel
theorem dX7_makes_69 : decode cX7_makes 69 = .ok (.iload_n 1, 1) := by decide +kernel
theorem dX7_makes_70 : decode cX7_makes 70 = .ok (.imul, 1) := by decide +kernel
theorem dX7_makes_71 : decode cX7_makes 71 = .ok (.iadd, 1) := by decide +kernel
theorem dX7_makes_72 : decode cX7_makes 72 = .ok (.iconst 4, 1) := by decide +kernel
theorem dX7_makes_73 : decode cX7_makes 73 = .ok (.iadd, 1) := by decide +kernel
theorem dX7_makes_74 : decode cX7_makes 74 = .ok (.dup2, 1) := by decide +kernel
theorem dX7_makes_75 : decode cX7_makes 75 = .ok (.iaload, 1) := by decide +kernel
theorem dX7_makes_76 : decode cX7_makes 76 = .ok (.iconst 1, 1) := by decide +kernel
theorem dX7_makes_77 : decode cX7_makes 77 = .ok (.iadd, 1) := by decide +kernel
theorem dX7_makes_78 : decode cX7_makes 78 = .ok (.iastore, 1) := by decide +kernel
theorem dX7_makes_79 : decode cX7_makes 79 = .ok (.aload_n 0, 1) := by decide +kernel
theorem dX7_makes_80 : decode cX7_makes 80 = .ok (.iload_n 1, 1) := by decide +kernel
theorem dX7_makes_81 : decode cX7_makes 81 = .ok (.iconst 4, 1) := by decide +kernel
theorem dX7_makes_82 : decode cX7_makes 82 = .ok (.invokevirtual 47, 3) := by decide +kernel
theorem dX7_makes_85 : decode cX7_makes 85 = .ok (.aload_n 0, 1) := by decide +kernel
theorem dX7_makes_86 : decode cX7_makes 86 = .ok (.iload_n 1, 1) := by decide +kernel
theorem dX7_makes_87 : decode cX7_makes 87 = .ok (.iconst 3, 1) := by decide +kernel
theorem dX7_makes_88 : decode cX7_makes 88 = .ok (.invokevirtual 47, 3) := by decide +kernel
theorem dX7_makes_91 : decode cX7_makes 91 = .ok (.if_icmp .ne 73, 3) := by decide +kernel
theorem dX7_makes_94 : decode cX7_makes 94 = .ok (.aload_n 0, 1) := by decide +kernel
theorem dX7_makes_95 : decode cX7_makes 95 = .ok (.getfield 7, 3) := by decide +kernel
theorem dX7_makes_98 : decode cX7_makes 98 = .ok (.iconst 4, 1) := by decide +kernel
theorem dX7_makes_99 : decode cX7_makes 99 = .ok (.iaload, 1) := by decide +kernel
theorem dX7_makes_100 : decode cX7_makes 100 = .ok (.iconst 1, 1) := by decide +kernel
theorem dX7_makes_101 : decode cX7_makes 101 = .ok (.iadd, 1) := by decide +kernel
theorem dX7_makes_102 : decode cX7_makes 102 = .ok (.aload_n 0, 1) := by decide +kernel
theorem dX7_makes_103 : decode cX7_makes 103 = .ok (.iload_n 1, 1) := by decide +kernel
theorem dX7_makes_104 : decode cX7_makes 104 = .ok (.iconst 5, 1) := by decide +kernel
theorem dX7_makes_105 : decode cX7_makes 105 = .ok (.invokevirtual 47, 3) := by decide +kernel
theorem dX7_makes_108 : decode cX7_makes 108 = .ok (.isub, 1) := by decide +kernel
theorem dX7_makes_109 : decode cX7_makes 109 = .ok (.istore_n 2, 1) := by decide +kernel
theorem dX7_makes_110 : decode cX7_makes 110 = .ok (.aload_n 0, 1) := by decide +kernel
theorem dX7_makes_111 : decode cX7_makes 111 = .ok (.getfield 7, 3) := by decide +kernel
theorem dX7_makes_114 : decode cX7_makes 114 = .ok (.bipush 10, 2) := by decide +kernel
theorem dX7_makes_116 : decode cX7_makes 116 = .ok (.dup2, 1) := by decide +kernel
theorem dX7_makes_117 : decode cX7_makes 117 = .ok (.iaload, 1) := by decide +kernel
theorem dX7_makes_118 : decode cX7_makes 118 = .ok (.iconst 1, 1) := by decide +kernel
theorem dX7_makes_119 : decode cX7_makes 119 = .ok (.iadd, 1) := by decide +kernel
theorem dX7_makes_120 : decode cX7_makes 120 = .ok (.iastore, 1) := by decide +kernel
theorem dX7_makes_121 : decode cX7_makes 121 = .ok (.aload_n 0, 1) := by decide +kernel
theorem dX7_makes_122 : decode cX7_makes 122 = .ok (.getfield 7, 3) := by decide +kernel
theorem dX7_makes_125 : decode cX7_makes 125 = .ok (.bipush 11, 2) := by decide +kernel
theorem dX7_makes_127 : decode cX7_makes 127 = .ok (.dup2, 1) := by decide +kernel
theorem dX7_makes_128 : decode cX7_makes 128 = .ok (.iaload, 1) := by decide +kernel
theorem dX7_makes_129 : decode cX7_makes 129 = .ok (.iload_n 2, 1) := by decide +kernel
theorem dX7_makes_130 : decode cX7_makes 130 = .ok (.ifCond .le 7, 3) := by decide +kernel
theorem dX7_makes_133 : decode cX7_makes 133 = .ok (.iconst 1, 1) := by decide +kernel
theorem dX7_makes_134 : decode cX7_makes 134 = .ok (.goto 4, 3) := by decide +kernel
theorem dX7_makes_137 : decode cX7_makes 137 = .ok (.iconst 0, 1) := by decide +kernel
theorem dX7_makes_138 : decode cX7_makes 138 = .ok (.iadd, 1) := by decide +kernel
theorem dX7_makes_139 : decode cX7_makes 139 = .ok (.iastore, 1) := by decide +kernel
theorem dX7_makes_140 : decode cX7_makes 140 = .ok (.aload_n 0, 1) := by decide +kernel
theorem dX7_makes_141 : decode cX7_makes 141 = .ok (.getfield 7, 3) := by decide +kernel
theorem dX7_makes_144 : decode cX7_makes 144 = .ok (.bipush 12, 2) := by decide +kernel
theorem dX7_makes_146 : decode cX7_makes 146 = .ok (.dup2, 1) := by decide +kernel
theorem dX7_makes_147 : decode cX7_makes 147 = .ok (.iaload, 1) := by decide +kernel
theorem dX7_makes_148 : decode cX7_makes 148 = .ok (.iload_n 2, 1) := by decide +kernel
theorem dX7_makes_149 : decode cX7_makes 149 = .ok (.ifCond .le 7, 3) := by decide +kernel
theorem dX7_makes_152 : decode cX7_makes 152 = .ok (.iload_n 2, 1) := by decide +kernel
theorem dX7_makes_153 : decode cX7_makes 153 = .ok (.goto 4, 3) := by decide +kernel
theorem dX7_makes_156 : decode cX7_makes 156 = .ok (.iconst 0, 1) := by decide +kernel
theorem dX7_makes_157 : decode cX7_makes 157 = .ok (.iadd, 1) := by decide +kernel
theorem dX7_makes_158 : decode cX7_makes 158 = .ok (.iastore, 1) := by decide +kernel
theorem dX7_makes_159 : decode cX7_makes 159 = .ok (.aload_n 0, 1) := by decide +kernel
theorem dX7_makes_160 : decode cX7_makes 160 = .ok (.iload_n 1, 1) := by decide +kernel
theorem dX7_makes_161 : decode cX7_makes 161 = .ok (.invokevirtual 99, 3) := by decide +kernel
theorem dX7_makes_164 : decode cX7_makes 164 = .ok (.return_, 1) := by decide +kernel
theorem dX7_presses_0 : decode cX7_presses 0 = .ok (.aload_n 0, 1) := by decide +kernel
theorem dX7_presses_1 : decode cX7_presses 1 = .ok (.iload_n 1, 1) := by decide +kernel
theorem dX7_presses_2 : decode cX7_presses 2 = .ok (.iconst 1, 1) := by decide +kernel
theorem dX7_presses_3 : decode cX7_presses 3 = .ok (.invokevirtual 47, 3) := by decide +kernel
theorem dX7_presses_6 : decode cX7_presses 6 = .ok (.istore_n 2, 1) := by decide +kernel
theorem dX7_presses_7 : decode cX7_presses 7 = .ok (.aload_n 0, 1) := by decide +kernel
theorem dX7_presses_8 : decode cX7_presses 8 = .ok (.iload_n 1, 1) := by decide +kernel
theorem dX7_presses_9 : decode cX7_presses 9 = .ok (.iconst 2, 1) := by decide +kernel
theorem dX7_presses_10 : decode cX7_presses 10 = .ok (.invokevirtual 47, 3) := by decide +kernel
theorem dX7_presses_13 : decode cX7_presses 13 = .ok (.istore_n 3, 1) := by decide +kernel
theorem dX7_presses_14 : decode cX7_presses 14 = .ok (.aload_n 0, 1) := by decide +kernel
theorem dX7_presses_15 : decode cX7_presses 15 = .ok (.bipush 6, 2) := by decide +kernel
theorem dX7_presses_17 : decode cX7_presses 17 = .ok (.iconst 1, 1) := by decide +kernel
theorem dX7_presses_18 : decode cX7_presses 18 = .ok (.invokevirtual 58, 3) := by decide +kernel
theorem dX7_presses_21 : decode cX7_presses 21 = .ok (.istore 4, 2) := by decide +kernel
theorem dX7_presses_23 : decode cX7_presses 23 = .ok (.aload_n 0, 1) := by decide +kernel
theorem dX7_presses_24 : decode cX7_presses 24 = .ok (.iload_n 2, 1) := by decide +kernel
theorem dX7_presses_25 : decode cX7_presses 25 = .ok (.invokevirtual 102, 3) := by decide +kernel
theorem dX7_presses_28 : decode cX7_presses 28 = .ok (.ifCond .eq 14, 3) := by decide +kernel
theorem dX7_presses_31 : decode cX7_presses 31 = .ok (.iload 4, 2) := by decide +kernel
theorem dX7_presses_33 : decode cX7_presses 33 = .ok (.aload_n 0, 1) := by decide +kernel
theorem dX7_presses_34 : decode cX7_presses 34 = .ok (.iload_n 3, 1) := by decide +kernel
theorem dX7_presses_35 : decode cX7_presses 35 = .ok (.iconst 1, 1) := by decide +kernel
theorem dX7_presses_36 : decode cX7_presses 36 = .ok (.invokevirtual 89, 3) := by decide +kernel
theorem dX7_presses_39 : decode cX7_presses 39 = .ok (.if_icmp .ge 8, 3) := by decide +kernel
theorem dX7_presses_42 : decode cX7_presses 42 = .ok (.aload_n 0, 1) := by decide +kernel
theorem dX7_presses_43 : decode cX7_presses 43 = .ok (.invokevirtual 105, 3) := by decide +kernel
theorem dX7_presses_46 : decode cX7_presses 46 = .ok (.return_, 1) := by decide +kernel
theorem dX7_presses_47 : decode cX7_presses 47 = .ok (.aload_n 0, 1) := by decide +kernel
theorem dX7_presses_48 : decode cX7_presses 48 = .ok (.iload_n 3, 1) := by decide +kernel
theorem dX7_presses_49 : decode cX7_presses 49 = .ok (.iconst 2, 1) := by decide +kernel
theorem dX7_presses_50 : decode cX7_presses 50 = .ok (.invokevirtual 89, 3) := by decide +kernel
theorem dX7_presses_53 : decode cX7_presses 53 = .ok (.iload 4, 2) := by decide +kernel
theorem dX7_presses_55 : decode cX7_presses 55 = .ok (.isub, 1) := by decide +kernel
theorem dX7_presses_56 : decode cX7_presses 56 = .ok (.istore 5, 2) := by decide +kernel
theorem dX7_presses_58 : decode cX7_presses 58 = .ok (.aload_n 0, 1) := by decide +kernel
theorem dX7_presses_59 : decode cX7_presses 59 = .ok (.getfield 7, 3) := by decide +kernel
theorem dX7_presses_62 : decode cX7_presses 62 = .ok (.bipush 9, 2) := by decide +kernel
theorem dX7_presses_64 : decode cX7_presses 64 = .ok (.dup2, 1) := by decide +kernel
theorem dX7_presses_65 : decode cX7_presses 65 = .ok (.iaload, 1) := by decide +kernel
theorem dX7_presses_66 : decode cX7_presses 66 = .ok (.iconst 1, 1) := by decide +kernel
theorem dX7_presses_67 : decode cX7_presses 67 = .ok (.iadd, 1) := by decide +kernel
theorem dX7_presses_68 : decode cX7_presses 68 = .ok (.iastore, 1) := by decide +kernel
theorem dX7_presses_69 : decode cX7_presses 69 = .ok (.aload_n 0, 1) := by decide +kernel
theorem dX7_presses_70 : decode cX7_presses 70 = .ok (.getfield 7, 3) := by decide +kernel
theorem dX7_presses_73 : decode cX7_presses 73 = .ok (.bipush 35, 2) := by decide +kernel
theorem dX7_presses_75 : decode cX7_presses 75 = .ok (.iconst 5, 1) := by decide +kernel
theorem dX7_presses_76 : decode cX7_presses 76 = .ok (.iload_n 2, 1) := by decide +kernel
theorem dX7_presses_77 : decode cX7_presses 77 = .ok (.imul, 1) := by decide +kernel
theorem dX7_presses_78 : decode cX7_presses 78 = .ok (.iadd, 1) := by decide +kernel
theorem dX7_presses_79 : decode cX7_presses 79 = .ok (.iconst 2, 1) := by decide +kernel
theorem dX7_presses_80 : decode cX7_presses 80 = .ok (.iadd, 1) := by decide +kernel
theorem dX7_presses_81 : decode cX7_presses 81 = .ok (.dup2, 1) := by decide +kernel
theorem dX7_presses_82 : decode cX7_presses 82 = .ok (.iaload, 1) := by decide +kernel
theorem dX7_presses_83 : decode cX7_presses 83 = .ok (.iconst 1, 1) := by decide +kernel
theorem dX7_presses_84 : decode cX7_presses 84 = .ok (.iload 5, 2) := by decide +kernel
theorem dX7_presses_86 : decode cX7_presses 86 = .ok (.ifCond .le 8, 3) := by decide +kernel
theorem dX7_presses_89 : decode cX7_presses 89 = .ok (.iload 5, 2) := by decide +kernel
theorem dX7_presses_91 : decode cX7_presses 91 = .ok (.goto 4, 3) := by decide +kernel
theorem dX7_presses_94 : decode cX7_presses 94 = .ok (.iconst 0, 1) := by decide +kernel
theorem dX7_presses_95 : decode cX7_presses 95 = .ok (.bipush 100, 2) := by decide +kernel
theorem dX7_presses_97 : decode cX7_presses 97 = .ok (.idiv, 1) := by decide +kernel
theorem dX7_presses_98 : decode cX7_presses 98 = .ok (.iadd, 1) := by decide +kernel
theorem dX7_presses_99 : decode cX7_presses 99 = .ok (.iadd, 1) := by decide +kernel
theorem dX7_presses_100 : decode cX7_presses 100 = .ok (.iastore, 1) := by decide +kernel
theorem dX7_presses_101 : decode cX7_presses 101 = .ok (.aload_n 0, 1) := by decide +kernel
theorem dX7_presses_102 : decode cX7_presses 102 = .ok (.bipush 6, 2) := by decide +kernel
theorem dX7_presses_104 : decode cX7_presses 104 = .ok (.iconst 1, 1) := by decide +kernel
theorem dX7_presses_105 : decode cX7_presses 105 = .ok (.iload 4, 2) := by decide +kernel
theorem dX7_presses_107 : decode cX7_presses 107 = .ok (.aload_n 0, 1) := by decide +kernel
theorem dX7_presses_108 : decode cX7_presses 108 = .ok (.getfield 7, 3) := by decide +kernel
theorem dX7_presses_111 : decode cX7_presses 111 = .ok (.iconst 1, 1) := by decide +kernel
theorem dX7_presses_112 : decode cX7_presses 112 = .ok (.iaload, 1) := by decide +kernel
theorem dX7_presses_113 : decode cX7_presses 113 = .ok (.isub, 1) := by decide +kernel
theorem dX7_presses_114 : decode cX7_presses 114 = .ok (.bipush 20, 2) := by decide +kernel
theorem dX7_presses_116 : decode cX7_presses 116 = .ok (.if_icmp .ge 8, 3) := by decide +kernel
theorem dX7_presses_119 : decode cX7_presses 119 = .ok (.bipush 20, 2) := by decide +kernel
theorem dX7_presses_121 : decode cX7_presses 121 = .ok (.goto 12, 3) := by decide +kernel
theorem dX7_presses_124 : decode cX7_presses 124 = .ok (.iload 4, 2) := by decide +kernel
theorem dX7_presses_126 : decode cX7_presses 126 = .ok (.aload_n 0, 1) := by decide +kernel
theorem dX7_presses_127 : decode cX7_presses 127 = .ok (.getfield 7, 3) := by decide +kernel
theorem dX7_presses_130 : decode cX7_presses 130 = .ok (.iconst 1, 1) := by decide +kernel
theorem dX7_presses_131 : decode cX7_presses 131 = .ok (.iaload, 1) := by decide +kernel
theorem dX7_presses_132 : decode cX7_presses 132 = .ok (.isub, 1) := by decide +kernel
theorem dX7_presses_133 : decode cX7_presses 133 = .ok (.invokevirtual 71, 3) := by decide +kernel
theorem dX7_presses_136 : decode cX7_presses 136 = .ok (.aload_n 0, 1) := by decide +kernel
theorem dX7_presses_137 : decode cX7_presses 137 = .ok (.bipush 6, 2) := by decide +kernel
theorem dX7_presses_139 : decode cX7_presses 139 = .ok (.iconst 3, 1) := by decide +kernel
theorem dX7_presses_140 : decode cX7_presses 140 = .ok (.aload_n 0, 1) := by decide +kernel
theorem dX7_presses_141 : decode cX7_presses 141 = .ok (.bipush 6, 2) := by decide +kernel
theorem dX7_presses_143 : decode cX7_presses 143 = .ok (.iconst 3, 1) := by decide +kernel
theorem dX7_presses_144 : decode cX7_presses 144 = .ok (.invokevirtual 58, 3) := by decide +kernel
theorem dX7_presses_147 : decode cX7_presses 147 = .ok (.iconst 1, 1) := by decide +kernel
theorem dX7_presses_148 : decode cX7_presses 148 = .ok (.isub, 1) := by decide +kernel
theorem dX7_presses_149 : decode cX7_presses 149 = .ok (.invokevirtual 71, 3) := by decide +kernel
theorem dX7_presses_152 : decode cX7_presses 152 = .ok (.aload_n 0, 1) := by decide +kernel
theorem dX7_presses_153 : decode cX7_presses 153 = .ok (.bipush 6, 2) := by decide +kernel
theorem dX7_presses_155 : decode cX7_presses 155 = .ok (.iconst 3, 1) := by decide +kernel
theorem dX7_presses_156 : decode cX7_presses 156 = .ok (.invokevirtual 58, 3) := by decide +kernel
theorem dX7_presses_159 : decode cX7_presses 159 = .ok (.ifCond .ne 8, 3) := by decide +kernel
theorem dX7_presses_162 : decode cX7_presses 162 = .ok (.aload_n 0, 1) := by decide +kernel
theorem dX7_presses_163 : decode cX7_presses 163 = .ok (.iload_n 1, 1) := by decide +kernel
theorem dX7_presses_164 : decode cX7_presses 164 = .ok (.invokevirtual 108, 3) := by decide +kernel
theorem dX7_presses_167 : decode cX7_presses 167 = .ok (.return_, 1) := by decide +kernel
theorem dX7_hottest_0 : decode cX7_hottest 0 = .ok (.iconst (-1), 1) := by decide +kernel
theorem dX7_hottest_1 : decode cX7_hottest 1 = .ok (.istore_n 2, 1) := by decide +kernel
theorem dX7_hottest_2 : decode cX7_hottest 2 = .ok (.iconst 0, 1) := by decide +kernel
theorem dX7_hottest_3 : decode cX7_hottest 3 = .ok (.istore_n 3, 1) := by decide +kernel
theorem dX7_hottest_4 : decode cX7_hottest 4 = .ok (.iload_n 3, 1) := by decide +kernel
theorem dX7_hottest_5 : decode cX7_hottest 5 = .ok (.bipush 6, 2) := by decide +kernel
theorem dX7_hottest_7 : decode cX7_hottest 7 = .ok (.if_icmp .ge 76, 3) := by decide +kernel
theorem dX7_hottest_10 : decode cX7_hottest 10 = .ok (.aload_n 0, 1) := by decide +kernel
theorem dX7_hottest_11 : decode cX7_hottest 11 = .ok (.iload_n 3, 1) := by decide +kernel
theorem dX7_hottest_12 : decode cX7_hottest 12 = .ok (.invokevirtual 64, 3) := by decide +kernel
theorem dX7_hottest_15 : decode cX7_hottest 15 = .ok (.iload_n 1, 1) := by decide +kernel
theorem dX7_hottest_16 : decode cX7_hottest 16 = .ok (.if_icmp .ne 27, 3) := by decide +kernel
theorem dX7_hottest_19 : decode cX7_hottest 19 = .ok (.aload_n 0, 1) := by decide +kernel
theorem dX7_hottest_20 : decode cX7_hottest 20 = .ok (.iload_n 3, 1) := by decide +kernel
theorem dX7_hottest_21 : decode cX7_hottest 21 = .ok (.iconst 1, 1) := by decide +kernel
theorem dX7_hottest_22 : decode cX7_hottest 22 = .ok (.invokevirtual 58, 3) := by decide +kernel
theorem dX7_hottest_25 : decode cX7_hottest 25 = .ok (.aload_n 0, 1) := by decide +kernel
theorem dX7_hottest_26 : decode cX7_hottest 26 = .ok (.aload_n 0, 1) := by decide +kernel
theorem dX7_hottest_27 : decode cX7_hottest 27 = .ok (.iload_n 1, 1) := by decide +kernel
theorem dX7_hottest_28 : decode cX7_hottest 28 = .ok (.iconst 2, 1) := by decide +kernel
theorem dX7_hottest_29 : decode cX7_hottest 29 = .ok (.invokevirtual 47, 3) := by decide +kernel
theorem dX7_hottest_32 : decode cX7_hottest 32 = .ok (.iconst 2, 1) := by decide +kernel
theorem dX7_hottest_33 : decode cX7_hottest 33 = .ok (.invokevirtual 89, 3) := by decide +kernel
theorem dX7_hottest_36 : decode cX7_hottest 36 = .ok (.if_icmp .lt 7, 3) := by decide +kernel
theorem dX7_hottest_39 : decode cX7_hottest 39 = .ok (.iconst 1, 1) := by decide +kernel
theorem dX7_hottest_40 : decode cX7_hottest 40 = .ok (.goto 4, 3) := by decide +kernel
theorem dX7_hottest_43 : decode cX7_hottest 43 = .ok (.iconst 0, 1) := by decide +kernel
theorem dX7_hottest_44 : decode cX7_hottest 44 = .ok (.istore 4, 2) := by decide +kernel
theorem dX7_hottest_46 : decode cX7_hottest 46 = .ok (.iload 4, 2) := by decide +kernel
theorem dX7_hottest_48 : decode cX7_hottest 48 = .ok (.ifCond .eq 27, 3) := by decide +kernel
theorem dX7_hottest_51 : decode cX7_hottest 51 = .ok (.iload_n 2, 1) := by decide +kernel
theorem dX7_hottest_52 : decode cX7_hottest 52 = .ok (.iconst (-1), 1) := by decide +kernel
theorem dX7_hottest_53 : decode cX7_hottest 53 = .ok (.if_icmp .eq 18, 3) := by decide +kernel
theorem dX7_hottest_56 : decode cX7_hottest 56 = .ok (.aload_n 0, 1) := by decide +kernel
theorem dX7_hottest_57 : decode cX7_hottest 57 = .ok (.iload_n 3, 1) := by decide +kernel
theorem dX7_hottest_58 : decode cX7_hottest 58 = .ok (.iconst 1, 1) := by decide +kernel
theorem dX7_hottest_59 : decode cX7_hottest 59 = .ok (.invokevirtual 58, 3) := by decide +kernel
theorem dX7_hottest_62 : decode cX7_hottest 62 = .ok (.aload_n 0, 1) := by decide +kernel
theorem dX7_hottest_63 : decode cX7_hottest 63 = .ok (.iload_n 2, 1) := by decide +kernel
theorem dX7_hottest_64 : decode cX7_hottest 64 = .ok (.iconst 1, 1) := by decide +kernel
theorem dX7_hottest_65 : decode cX7_hottest 65 = .ok (.invokevirtual 58, 3) := by decide +kernel
theorem dX7_hottest_68 : decode cX7_hottest 68 = .ok (.if_icmp .le 7, 3) := by decide +kernel
theorem dX7_hottest_71 : decode cX7_hottest 71 = .ok (.iload_n 3, 1) := by decide +kernel
theorem dX7_hottest_72 : decode cX7_hottest 72 = .ok (.goto 4, 3) := by decide +kernel
theorem dX7_hottest_75 : decode cX7_hottest 75 = .ok (.iload_n 2, 1) := by decide +kernel
theorem dX7_hottest_76 : decode cX7_hottest 76 = .ok (.istore_n 2, 1) := by decide +kernel
theorem dX7_hottest_77 : decode cX7_hottest 77 = .ok (.iinc 3 1, 3) := by decide +kernel
theorem dX7_hottest_80 : decode cX7_hottest 80 = .ok (.goto (-76), 3) := by decide +kernel
theorem dX7_hottest_83 : decode cX7_hottest 83 = .ok (.iload_n 2, 1) := by decide +kernel
theorem dX7_hottest_84 : decode cX7_hottest 84 = .ok (.ireturn, 1) := by decide +kernel
theorem dX7_takes_0 : decode cX7_takes 0 = .ok (.iconst 0, 1) := by decide +kernel
theorem dX7_takes_1 : decode cX7_takes 1 = .ok (.istore_n 1, 1) := by decide +kernel
theorem dX7_takes_2 : decode cX7_takes 2 = .ok (.iload_n 1, 1) := by decide +kernel
theorem dX7_takes_3 : decode cX7_takes 3 = .ok (.aload_n 0, 1) := by decide +kernel
theorem dX7_takes_4 : decode cX7_takes 4 = .ok (.getfield 7, 3) := by decide +kernel
theorem dX7_takes_7 : decode cX7_takes 7 = .ok (.iconst 5, 1) := by decide +kernel
theorem dX7_takes_8 : decode cX7_takes 8 = .ok (.iaload, 1) := by decide +kernel
theorem dX7_takes_9 : decode cX7_takes 9 = .ok (.if_icmp .ge 51, 3) := by decide +kernel
theorem dX7_takes_12 : decode cX7_takes 12 = .ok (.aload_n 0, 1) := by decide +kernel
theorem dX7_takes_13 : decode cX7_takes 13 = .ok (.iload_n 1, 1) := by decide +kernel
theorem dX7_takes_14 : decode cX7_takes 14 = .ok (.invokevirtual 83, 3) := by decide +kernel
theorem dX7_takes_17 : decode cX7_takes 17 = .ok (.istore_n 2, 1) := by decide +kernel
theorem dX7_takes_18 : decode cX7_takes 18 = .ok (.aload_n 0, 1) := by decide +kernel
theorem dX7_takes_19 : decode cX7_takes 19 = .ok (.aload_n 0, 1) := by decide +kernel
theorem dX7_takes_20 : decode cX7_takes 20 = .ok (.iload_n 2, 1) := by decide +kernel
theorem dX7_takes_21 : decode cX7_takes 21 = .ok (.iconst 1, 1) := by decide +kernel
theorem dX7_takes_22 : decode cX7_takes 22 = .ok (.invokevirtual 47, 3) := by decide +kernel
theorem dX7_takes_25 : decode cX7_takes 25 = .ok (.invokevirtual 102, 3) := by decide +kernel
theorem dX7_takes_28 : decode cX7_takes 28 = .ok (.ifCond .eq 11, 3) := by decide +kernel
theorem dX7_takes_31 : decode cX7_takes 31 = .ok (.aload_n 0, 1) := by decide +kernel
theorem dX7_takes_32 : decode cX7_takes 32 = .ok (.iload_n 2, 1) := by decide +kernel
theorem dX7_takes_33 : decode cX7_takes 33 = .ok (.invokevirtual 111, 3) := by decide +kernel
theorem dX7_takes_36 : decode cX7_takes 36 = .ok (.goto 4, 3) := by decide +kernel
theorem dX7_takes_39 : decode cX7_takes 39 = .ok (.iconst (-1), 1) := by decide +kernel
theorem dX7_takes_40 : decode cX7_takes 40 = .ok (.istore_n 3, 1) := by decide +kernel
theorem dX7_takes_41 : decode cX7_takes 41 = .ok (.iload_n 3, 1) := by decide +kernel
theorem dX7_takes_42 : decode cX7_takes 42 = .ok (.iconst (-1), 1) := by decide +kernel
theorem dX7_takes_43 : decode cX7_takes 43 = .ok (.if_icmp .eq 11, 3) := by decide +kernel
theorem dX7_takes_46 : decode cX7_takes 46 = .ok (.aload_n 0, 1) := by decide +kernel
theorem dX7_takes_47 : decode cX7_takes 47 = .ok (.iload_n 3, 1) := by decide +kernel
theorem dX7_takes_48 : decode cX7_takes 48 = .ok (.bipush 6, 2) := by decide +kernel
theorem dX7_takes_50 : decode cX7_takes 50 = .ok (.invokevirtual 95, 3) := by decide +kernel
theorem dX7_takes_53 : decode cX7_takes 53 = .ok (.return_, 1) := by decide +kernel
theorem dX7_takes_54 : decode cX7_takes 54 = .ok (.iinc 1 1, 3) := by decide +kernel
theorem dX7_takes_57 : decode cX7_takes 57 = .ok (.goto (-55), 3) := by decide +kernel
theorem dX7_takes_60 : decode cX7_takes 60 = .ok (.return_, 1) := by decide +kernel
theorem dX7_grinds_0 : decode cX7_grinds 0 = .ok (.aload_n 0, 1) := by decide +kernel
theorem dX7_grinds_1 : decode cX7_grinds 1 = .ok (.getfield 7, 3) := by decide +kernel
theorem dX7_grinds_4 : decode cX7_grinds 4 = .ok (.bipush 13, 2) := by decide +kernel
theorem dX7_grinds_6 : decode cX7_grinds 6 = .ok (.iaload, 1) := by decide +kernel
theorem dX7_grinds_7 : decode cX7_grinds 7 = .ok (.ifCond .le 104, 3) := by decide +kernel
theorem dX7_grinds_10 : decode cX7_grinds 10 = .ok (.aload_n 0, 1) := by decide +kernel
theorem dX7_grinds_11 : decode cX7_grinds 11 = .ok (.getfield 7, 3) := by decide +kernel
theorem dX7_grinds_14 : decode cX7_grinds 14 = .ok (.bipush 14, 2) := by decide +kernel
theorem dX7_grinds_16 : decode cX7_grinds 16 = .ok (.dup2, 1) := by decide +kernel
theorem dX7_grinds_17 : decode cX7_grinds 17 = .ok (.iaload, 1) := by decide +kernel
theorem dX7_grinds_18 : decode cX7_grinds 18 = .ok (.iconst 1, 1) := by decide +kernel
theorem dX7_grinds_19 : decode cX7_grinds 19 = .ok (.isub, 1) := by decide +kernel
theorem dX7_grinds_20 : decode cX7_grinds 20 = .ok (.iastore, 1) := by decide +kernel
theorem dX7_grinds_21 : decode cX7_grinds 21 = .ok (.aload_n 0, 1) := by decide +kernel
theorem dX7_grinds_22 : decode cX7_grinds 22 = .ok (.getfield 7, 3) := by decide +kernel
theorem dX7_grinds_25 : decode cX7_grinds 25 = .ok (.bipush 14, 2) := by decide +kernel
theorem dX7_grinds_27 : decode cX7_grinds 27 = .ok (.iaload, 1) := by decide +kernel
theorem dX7_grinds_28 : decode cX7_grinds 28 = .ok (.ifCond .ne 83, 3) := by decide +kernel
theorem dX7_grinds_31 : decode cX7_grinds 31 = .ok (.bipush 35, 2) := by decide +kernel
theorem dX7_grinds_33 : decode cX7_grinds 33 = .ok (.iconst 5, 1) := by decide +kernel
theorem dX7_grinds_34 : decode cX7_grinds 34 = .ok (.aload_n 0, 1) := by decide +kernel
theorem dX7_grinds_35 : decode cX7_grinds 35 = .ok (.getfield 7, 3) := by decide +kernel
theorem dX7_grinds_38 : decode cX7_grinds 38 = .ok (.bipush 13, 2) := by decide +kernel
theorem dX7_grinds_40 : decode cX7_grinds 40 = .ok (.iaload, 1) := by decide +kernel
theorem dX7_grinds_41 : decode cX7_grinds 41 = .ok (.iconst 1, 1) := by decide +kernel
theorem dX7_grinds_42 : decode cX7_grinds 42 = .ok (.isub, 1) := by decide +kernel
theorem dX7_grinds_43 : decode cX7_grinds 43 = .ok (.imul, 1) := by decide +kernel
theorem dX7_grinds_44 : decode cX7_grinds 44 = .ok (.iadd, 1) := by decide +kernel
theorem dX7_grinds_45 : decode cX7_grinds 45 = .ok (.istore_n 1, 1) := by decide +kernel
theorem dX7_grinds_46 : decode cX7_grinds 46 = .ok (.aload_n 0, 1) := by decide +kernel
theorem dX7_grinds_47 : decode cX7_grinds 47 = .ok (.getfield 7, 3) := by decide +kernel
theorem dX7_grinds_50 : decode cX7_grinds 50 = .ok (.iload_n 1, 1) := by decide +kernel
theorem dX7_grinds_51 : decode cX7_grinds 51 = .ok (.iconst 2, 1) := by decide +kernel
theorem dX7_grinds_52 : decode cX7_grinds 52 = .ok (.iadd, 1) := by decide +kernel
theorem dX7_grinds_53 : decode cX7_grinds 53 = .ok (.iconst 0, 1) := by decide +kernel
theorem dX7_grinds_54 : decode cX7_grinds 54 = .ok (.iastore, 1) := by decide +kernel
theorem dX7_grinds_55 : decode cX7_grinds 55 = .ok (.aload_n 0, 1) := by decide +kernel
theorem dX7_grinds_56 : decode cX7_grinds 56 = .ok (.getfield 7, 3) := by decide +kernel
theorem dX7_grinds_59 : decode cX7_grinds 59 = .ok (.iload_n 1, 1) := by decide +kernel
theorem dX7_grinds_60 : decode cX7_grinds 60 = .ok (.iconst 1, 1) := by decide +kernel
theorem dX7_grinds_61 : decode cX7_grinds 61 = .ok (.iadd, 1) := by decide +kernel
theorem dX7_grinds_62 : decode cX7_grinds 62 = .ok (.aload_n 0, 1) := by decide +kernel
theorem dX7_grinds_63 : decode cX7_grinds 63 = .ok (.getfield 7, 3) := by decide +kernel
theorem dX7_grinds_66 : decode cX7_grinds 66 = .ok (.iload_n 1, 1) := by decide +kernel
theorem dX7_grinds_67 : decode cX7_grinds 67 = .ok (.iconst 1, 1) := by decide +kernel
theorem dX7_grinds_68 : decode cX7_grinds 68 = .ok (.iadd, 1) := by decide +kernel
theorem dX7_grinds_69 : decode cX7_grinds 69 = .ok (.iaload, 1) := by decide +kernel
theorem dX7_grinds_70 : decode cX7_grinds 70 = .ok (.bipush 15, 2) := by decide +kernel
theorem dX7_grinds_72 : decode cX7_grinds 72 = .ok (.if_icmp .ge 8, 3) := by decide +kernel
theorem dX7_grinds_75 : decode cX7_grinds 75 = .ok (.bipush 10, 2) := by decide +kernel
theorem dX7_grinds_77 : decode cX7_grinds 77 = .ok (.goto 13, 3) := by decide +kernel
theorem dX7_grinds_80 : decode cX7_grinds 80 = .ok (.aload_n 0, 1) := by decide +kernel
theorem dX7_grinds_81 : decode cX7_grinds 81 = .ok (.getfield 7, 3) := by decide +kernel
theorem dX7_grinds_84 : decode cX7_grinds 84 = .ok (.iload_n 1, 1) := by decide +kernel
theorem dX7_grinds_85 : decode cX7_grinds 85 = .ok (.iconst 1, 1) := by decide +kernel
theorem dX7_grinds_86 : decode cX7_grinds 86 = .ok (.iadd, 1) := by decide +kernel
theorem dX7_grinds_87 : decode cX7_grinds 87 = .ok (.iaload, 1) := by decide +kernel
theorem dX7_grinds_88 : decode cX7_grinds 88 = .ok (.iconst 5, 1) := by decide +kernel
theorem dX7_grinds_89 : decode cX7_grinds 89 = .ok (.isub, 1) := by decide +kernel
theorem dX7_grinds_90 : decode cX7_grinds 90 = .ok (.iastore, 1) := by decide +kernel
theorem dX7_grinds_91 : decode cX7_grinds 91 = .ok (.aload_n 0, 1) := by decide +kernel
theorem dX7_grinds_92 : decode cX7_grinds 92 = .ok (.getfield 7, 3) := by decide +kernel
theorem dX7_grinds_95 : decode cX7_grinds 95 = .ok (.iload_n 1, 1) := by decide +kernel
theorem dX7_grinds_96 : decode cX7_grinds 96 = .ok (.iconst 4, 1) := by decide +kernel
theorem dX7_grinds_97 : decode cX7_grinds 97 = .ok (.iadd, 1) := by decide +kernel
theorem dX7_grinds_98 : decode cX7_grinds 98 = .ok (.dup2, 1) := by decide +kernel
theorem dX7_grinds_99 : decode cX7_grinds 99 = .ok (.iaload, 1) := by decide +kernel
theorem dX7_grinds_100 : decode cX7_grinds 100 = .ok (.iconst 1, 1) := by decide +kernel
theorem dX7_grinds_101 : decode cX7_grinds 101 = .ok (.iadd, 1) := by decide +kernel
theorem dX7_grinds_102 : decode cX7_grinds 102 = .ok (.iastore, 1) := by decide +kernel
theorem dX7_grinds_103 : decode cX7_grinds 103 = .ok (.aload_n 0, 1) := by decide +kernel
theorem dX7_grinds_104 : decode cX7_grinds 104 = .ok (.getfield 7, 3) := by decide +kernel
theorem dX7_grinds_107 : decode cX7_grinds 107 = .ok (.bipush 13, 2) := by decide +kernel
theorem dX7_grinds_109 : decode cX7_grinds 109 = .ok (.iconst 0, 1) := by decide +kernel
theorem dX7_grinds_110 : decode cX7_grinds 110 = .ok (.iastore, 1) := by decide +kernel
theorem dX7_grinds_111 : decode cX7_grinds 111 = .ok (.iconst 0, 1) := by decide +kernel
theorem dX7_grinds_112 : decode cX7_grinds 112 = .ok (.istore_n 1, 1) := by decide +kernel
theorem dX7_grinds_113 : decode cX7_grinds 113 = .ok (.iload_n 1, 1) := by decide +kernel
theorem dX7_grinds_114 : decode cX7_grinds 114 = .ok (.iconst 5, 1) := by decide +kernel
theorem dX7_grinds_115 : decode cX7_grinds 115 = .ok (.if_icmp .ge 32, 3) := by decide +kernel
theorem dX7_grinds_118 : decode cX7_grinds 118 = .ok (.aload_n 0, 1) := by decide +kernel
theorem dX7_grinds_119 : decode cX7_grinds 119 = .ok (.getfield 7, 3) := by decide +kernel
theorem dX7_grinds_122 : decode cX7_grinds 122 = .ok (.bipush 13, 2) := by decide +kernel
theorem dX7_grinds_124 : decode cX7_grinds 124 = .ok (.iaload, 1) := by decide +kernel
theorem dX7_grinds_125 : decode cX7_grinds 125 = .ok (.ifCond .ne 22, 3) := by decide +kernel
theorem dX7_grinds_128 : decode cX7_grinds 128 = .ok (.aload_n 0, 1) := by decide +kernel
theorem dX7_grinds_129 : decode cX7_grinds 129 = .ok (.iload_n 1, 1) := by decide +kernel
theorem dX7_grinds_130 : decode cX7_grinds 130 = .ok (.invokevirtual 40, 3) := by decide +kernel
theorem dX7_grinds_133 : decode cX7_grinds 133 = .ok (.ifCond .eq 8, 3) := by decide +kernel
theorem dX7_grinds_136 : decode cX7_grinds 136 = .ok (.aload_n 0, 1) := by decide +kernel
theorem dX7_grinds_137 : decode cX7_grinds 137 = .ok (.iload_n 1, 1) := by decide +kernel
theorem dX7_grinds_138 : decode cX7_grinds 138 = .ok (.invokevirtual 114, 3) := by decide +kernel
theorem dX7_grinds_141 : decode cX7_grinds 141 = .ok (.iinc 1 1, 3) := by decide +kernel
theorem dX7_grinds_144 : decode cX7_grinds 144 = .ok (.goto (-31), 3) := by decide +kernel
theorem dX7_grinds_147 : decode cX7_grinds 147 = .ok (.return_, 1) := by decide +kernel
theorem dX7_begins_0 : decode cX7_begins 0 = .ok (.aload_n 0, 1) := by decide +kernel
theorem dX7_begins_1 : decode cX7_begins 1 = .ok (.getfield 7, 3) := by decide +kernel
theorem dX7_begins_4 : decode cX7_begins 4 = .ok (.bipush 13, 2) := by decide +kernel
theorem dX7_begins_6 : decode cX7_begins 6 = .ok (.iload_n 1, 1) := by decide +kernel
theorem dX7_begins_7 : decode cX7_begins 7 = .ok (.iconst 1, 1) := by decide +kernel
theorem dX7_begins_8 : decode cX7_begins 8 = .ok (.iadd, 1) := by decide +kernel
theorem dX7_begins_9 : decode cX7_begins 9 = .ok (.iastore, 1) := by decide +kernel
theorem dX7_begins_10 : decode cX7_begins 10 = .ok (.aload_n 0, 1) := by decide +kernel
theorem dX7_begins_11 : decode cX7_begins 11 = .ok (.getfield 7, 3) := by decide +kernel
theorem dX7_begins_14 : decode cX7_begins 14 = .ok (.bipush 14, 2) := by decide +kernel
theorem dX7_begins_16 : decode cX7_begins 16 = .ok (.aload_n 0, 1) := by decide +kernel
theorem dX7_begins_17 : decode cX7_begins 17 = .ok (.getfield 7, 3) := by decide +kernel
theorem dX7_begins_20 : decode cX7_begins 20 = .ok (.iconst 3, 1) := by decide +kernel
theorem dX7_begins_21 : decode cX7_begins 21 = .ok (.iaload, 1) := by decide +kernel
theorem dX7_begins_22 : decode cX7_begins 22 = .ok (.iastore, 1) := by decide +kernel
theorem dX7_begins_23 : decode cX7_begins 23 = .ok (.return_, 1) := by decide +kernel
theorem dX7_minute_0 : decode cX7_minute 0 = .ok (.aload_n 0, 1) := by decide +kernel
theorem dX7_minute_1 : decode cX7_minute 1 = .ok (.invokevirtual 117, 3) := by decide +kernel
theorem dX7_minute_4 : decode cX7_minute 4 = .ok (.aload_n 0, 1) := by decide +kernel
theorem dX7_minute_5 : decode cX7_minute 5 = .ok (.invokevirtual 120, 3) := by decide +kernel
theorem dX7_minute_8 : decode cX7_minute 8 = .ok (.aload_n 0, 1) := by decide +kernel
theorem dX7_minute_9 : decode cX7_minute 9 = .ok (.bipush 6, 2) := by decide +kernel
theorem dX7_minute_11 : decode cX7_minute 11 = .ok (.invokevirtual 64, 3) := by decide +kernel
theorem dX7_minute_14 : decode cX7_minute 14 = .ok (.istore_n 1, 1) := by decide +kernel
theorem dX7_minute_15 : decode cX7_minute 15 = .ok (.iload_n 1, 1) := by decide +kernel
theorem dX7_minute_16 : decode cX7_minute 16 = .ok (.iconst (-1), 1) := by decide +kernel
theorem dX7_minute_17 : decode cX7_minute 17 = .ok (.if_icmp .ne 10, 3) := by decide +kernel
theorem dX7_minute_20 : decode cX7_minute 20 = .ok (.aload_n 0, 1) := by decide +kernel
theorem dX7_minute_21 : decode cX7_minute 21 = .ok (.invokevirtual 123, 3) := by decide +kernel
theorem dX7_minute_24 : decode cX7_minute 24 = .ok (.goto 8, 3) := by decide +kernel
theorem dX7_minute_27 : decode cX7_minute 27 = .ok (.aload_n 0, 1) := by decide +kernel
theorem dX7_minute_28 : decode cX7_minute 28 = .ok (.iload_n 1, 1) := by decide +kernel
theorem dX7_minute_29 : decode cX7_minute 29 = .ok (.invokevirtual 126, 3) := by decide +kernel
theorem dX7_minute_32 : decode cX7_minute 32 = .ok (.aload_n 0, 1) := by decide +kernel
theorem dX7_minute_33 : decode cX7_minute 33 = .ok (.invokevirtual 129, 3) := by decide +kernel
theorem dX7_minute_36 : decode cX7_minute 36 = .ok (.aload_n 0, 1) := by decide +kernel
theorem dX7_minute_37 : decode cX7_minute 37 = .ok (.getfield 7, 3) := by decide +kernel
theorem dX7_minute_40 : decode cX7_minute 40 = .ok (.iconst 4, 1) := by decide +kernel
theorem dX7_minute_41 : decode cX7_minute 41 = .ok (.dup2, 1) := by decide +kernel
theorem dX7_minute_42 : decode cX7_minute 42 = .ok (.iaload, 1) := by decide +kernel
theorem dX7_minute_43 : decode cX7_minute 43 = .ok (.iconst 1, 1) := by decide +kernel
theorem dX7_minute_44 : decode cX7_minute 44 = .ok (.iadd, 1) := by decide +kernel
theorem dX7_minute_45 : decode cX7_minute 45 = .ok (.iastore, 1) := by decide +kernel
theorem dX7_minute_46 : decode cX7_minute 46 = .ok (.return_, 1) := by decide +kernel
theorem dX7_minutes_0 : decode cX7_minutes 0 = .ok (.aload_n 0, 1) := by decide +kernel
theorem dX7_minutes_1 : decode cX7_minutes 1 = .ok (.getfield 7, 3) := by decide +kernel
theorem dX7_minutes_4 : decode cX7_minutes 4 = .ok (.bipush 7, 2) := by decide +kernel
theorem dX7_minutes_6 : decode cX7_minutes 6 = .ok (.iaload, 1) := by decide +kernel
theorem dX7_minutes_7 : decode cX7_minutes 7 = .ok (.istore_n 2, 1) := by decide +kernel
theorem dX7_minutes_8 : decode cX7_minutes 8 = .ok (.iconst 0, 1) := by decide +kernel
theorem dX7_minutes_9 : decode cX7_minutes 9 = .ok (.istore_n 3, 1) := by decide +kernel
theorem dX7_minutes_10 : decode cX7_minutes 10 = .ok (.iload_n 3, 1) := by decide +kernel
theorem dX7_minutes_11 : decode cX7_minutes 11 = .ok (.iload_n 1, 1) := by decide +kernel
theorem dX7_minutes_12 : decode cX7_minutes 12 = .ok (.if_icmp .ge 13, 3) := by decide +kernel
theorem dX7_minutes_15 : decode cX7_minutes 15 = .ok (.aload_n 0, 1) := by decide +kernel
theorem dX7_minutes_16 : decode cX7_minutes 16 = .ok (.invokevirtual 132, 3) := by decide +kernel
theorem dX7_minutes_19 : decode cX7_minutes 19 = .ok (.iinc 3 1, 3) := by decide +kernel
theorem dX7_minutes_22 : decode cX7_minutes 22 = .ok (.goto (-12), 3) := by decide +kernel
theorem dX7_minutes_25 : decode cX7_minutes 25 = .ok (.aload_n 0, 1) := by decide +kernel
theorem dX7_minutes_26 : decode cX7_minutes 26 = .ok (.getfield 7, 3) := by decide +kernel
theorem dX7_minutes_29 : decode cX7_minutes 29 = .ok (.bipush 7, 2) := by decide +kernel
theorem dX7_minutes_31 : decode cX7_minutes 31 = .ok (.iaload, 1) := by decide +kernel
theorem dX7_minutes_32 : decode cX7_minutes 32 = .ok (.iload_n 2, 1) := by decide +kernel
theorem dX7_minutes_33 : decode cX7_minutes 33 = .ok (.isub, 1) := by decide +kernel
theorem dX7_minutes_34 : decode cX7_minutes 34 = .ok (.ireturn, 1) := by decide +kernel
theorem dX7_stock_0 : decode cX7_stock 0 = .ok (.aload_n 0, 1) := by decide +kernel
theorem dX7_stock_1 : decode cX7_stock 1 = .ok (.iconst 0, 1) := by decide +kernel
theorem dX7_stock_2 : decode cX7_stock 2 = .ok (.putfield 25, 3) := by decide +kernel
theorem dX7_stock_5 : decode cX7_stock 5 = .ok (.iload_n 1, 1) := by decide +kernel
theorem dX7_stock_6 : decode cX7_stock 6 = .ok (.invokestatic 135, 3) := by decide +kernel
theorem dX7_stock_9 : decode cX7_stock 9 = .ok (.ifCond .ne 9, 3) := by decide +kernel
theorem dX7_stock_12 : decode cX7_stock 12 = .ok (.aload_n 0, 1) := by decide +kernel
theorem dX7_stock_13 : decode cX7_stock 13 = .ok (.iconst 1, 1) := by decide +kernel
theorem dX7_stock_14 : decode cX7_stock 14 = .ok (.invokevirtual 138, 3) := by decide +kernel
theorem dX7_stock_17 : decode cX7_stock 17 = .ok (.ireturn, 1) := by decide +kernel
theorem dX7_stock_18 : decode cX7_stock 18 = .ok (.iload_n 2, 1) := by decide +kernel
theorem dX7_stock_19 : decode cX7_stock 19 = .ok (.iconst 1, 1) := by decide +kernel
theorem dX7_stock_20 : decode cX7_stock 20 = .ok (.bipush 99, 2) := by decide +kernel
theorem dX7_stock_22 : decode cX7_stock 22 = .ok (.invokestatic 29, 3) := by decide +kernel
theorem dX7_stock_25 : decode cX7_stock 25 = .ok (.ifCond .ne 9, 3) := by decide +kernel
theorem dX7_stock_28 : decode cX7_stock 28 = .ok (.aload_n 0, 1) := by decide +kernel
theorem dX7_stock_29 : decode cX7_stock 29 = .ok (.iconst 2, 1) := by decide +kernel
theorem dX7_stock_30 : decode cX7_stock 30 = .ok (.invokevirtual 138, 3) := by decide +kernel
theorem dX7_stock_33 : decode cX7_stock 33 = .ok (.ireturn, 1) := by decide +kernel
theorem dX7_stock_34 : decode cX7_stock 34 = .ok (.aload_n 0, 1) := by decide +kernel
theorem dX7_stock_35 : decode cX7_stock 35 = .ok (.iload_n 1, 1) := by decide +kernel
theorem dX7_stock_36 : decode cX7_stock 36 = .ok (.iconst 0, 1) := by decide +kernel
theorem dX7_stock_37 : decode cX7_stock 37 = .ok (.invokevirtual 89, 3) := by decide +kernel
theorem dX7_stock_40 : decode cX7_stock 40 = .ok (.iload_n 2, 1) := by decide +kernel
theorem dX7_stock_41 : decode cX7_stock 41 = .ok (.iadd, 1) := by decide +kernel
theorem dX7_stock_42 : decode cX7_stock 42 = .ok (.sipush 200, 3) := by decide +kernel
theorem dX7_stock_45 : decode cX7_stock 45 = .ok (.if_icmp .le 9, 3) := by decide +kernel
theorem dX7_stock_48 : decode cX7_stock 48 = .ok (.aload_n 0, 1) := by decide +kernel
theorem dX7_stock_49 : decode cX7_stock 49 = .ok (.iconst 3, 1) := by decide +kernel
theorem dX7_stock_50 : decode cX7_stock 50 = .ok (.invokevirtual 138, 3) := by decide +kernel
theorem dX7_stock_53 : decode cX7_stock 53 = .ok (.ireturn, 1) := by decide +kernel
theorem dX7_stock_54 : decode cX7_stock 54 = .ok (.aload_n 0, 1) := by decide +kernel
theorem dX7_stock_55 : decode cX7_stock 55 = .ok (.invokevirtual 141, 3) := by decide +kernel
theorem dX7_stock_58 : decode cX7_stock 58 = .ok (.aload_n 0, 1) := by decide +kernel
theorem dX7_stock_59 : decode cX7_stock 59 = .ok (.getfield 7, 3) := by decide +kernel
theorem dX7_stock_62 : decode cX7_stock 62 = .ok (.bipush 15, 2) := by decide +kernel
theorem dX7_stock_64 : decode cX7_stock 64 = .ok (.iconst 5, 1) := by decide +kernel
theorem dX7_stock_65 : decode cX7_stock 65 = .ok (.iload_n 1, 1) := by decide +kernel
theorem dX7_stock_66 : decode cX7_stock 66 = .ok (.imul, 1) := by decide +kernel
theorem dX7_stock_67 : decode cX7_stock 67 = .ok (.iadd, 1) := by decide +kernel
theorem dX7_stock_68 : decode cX7_stock 68 = .ok (.iconst 0, 1) := by decide +kernel
theorem dX7_stock_69 : decode cX7_stock 69 = .ok (.iadd, 1) := by decide +kernel
theorem dX7_stock_70 : decode cX7_stock 70 = .ok (.dup2, 1) := by decide +kernel
theorem dX7_stock_71 : decode cX7_stock 71 = .ok (.iaload, 1) := by decide +kernel
theorem dX7_stock_72 : decode cX7_stock 72 = .ok (.iload_n 2, 1) := by decide +kernel
theorem dX7_stock_73 : decode cX7_stock 73 = .ok (.iadd, 1) := by decide +kernel
theorem dX7_stock_74 : decode cX7_stock 74 = .ok (.iastore, 1) := by decide +kernel
theorem dX7_stock_75 : decode cX7_stock 75 = .ok (.aload_n 0, 1) := by decide +kernel
theorem dX7_stock_76 : decode cX7_stock 76 = .ok (.iload_n 1, 1) := by decide +kernel
theorem dX7_stock_77 : decode cX7_stock 77 = .ok (.iconst 0, 1) := by decide +kernel
theorem dX7_stock_78 : decode cX7_stock 78 = .ok (.invokevirtual 89, 3) := by decide +kernel
theorem dX7_stock_81 : decode cX7_stock 81 = .ok (.ireturn, 1) := by decide +kernel
theorem dX7_range_0 : decode cX7_range 0 = .ok (.aload_n 0, 1) := by decide +kernel
theorem dX7_range_1 : decode cX7_range 1 = .ok (.iconst 0, 1) := by decide +kernel
theorem dX7_range_2 : decode cX7_range 2 = .ok (.putfield 25, 3) := by decide +kernel
theorem dX7_range_5 : decode cX7_range 5 = .ok (.iload_n 1, 1) := by decide +kernel
theorem dX7_range_6 : decode cX7_range 6 = .ok (.invokestatic 135, 3) := by decide +kernel
theorem dX7_range_9 : decode cX7_range 9 = .ok (.ifCond .ne 9, 3) := by decide +kernel
theorem dX7_range_12 : decode cX7_range 12 = .ok (.aload_n 0, 1) := by decide +kernel
theorem dX7_range_13 : decode cX7_range 13 = .ok (.iconst 1, 1) := by decide +kernel
theorem dX7_range_14 : decode cX7_range 14 = .ok (.invokevirtual 138, 3) := by decide +kernel
theorem dX7_range_17 : decode cX7_range 17 = .ok (.ireturn, 1) := by decide +kernel
theorem dX7_range_18 : decode cX7_range 18 = .ok (.iload_n 2, 1) := by decide +kernel
theorem dX7_range_19 : decode cX7_range 19 = .ok (.sipush 600, 3) := by decide +kernel
theorem dX7_range_22 : decode cX7_range 22 = .ok (.sipush 1240, 3) := by decide +kernel
theorem dX7_range_25 : decode cX7_range 25 = .ok (.invokestatic 29, 3) := by decide +kernel
theorem dX7_range_28 : decode cX7_range 28 = .ok (.ifCond .eq 14, 3) := by decide +kernel
theorem dX7_range_31 : decode cX7_range 31 = .ok (.iload_n 3, 1) := by decide +kernel
theorem dX7_range_32 : decode cX7_range 32 = .ok (.iload_n 2, 1) := by decide +kernel
theorem dX7_range_33 : decode cX7_range 33 = .ok (.sipush 1240, 3) := by decide +kernel
theorem dX7_range_36 : decode cX7_range 36 = .ok (.invokestatic 29, 3) := by decide +kernel
theorem dX7_range_39 : decode cX7_range 39 = .ok (.ifCond .ne 9, 3) := by decide +kernel
theorem dX7_range_42 : decode cX7_range 42 = .ok (.aload_n 0, 1) := by decide +kernel
theorem dX7_range_43 : decode cX7_range 43 = .ok (.iconst 2, 1) := by decide +kernel
theorem dX7_range_44 : decode cX7_range 44 = .ok (.invokevirtual 138, 3) := by decide +kernel
theorem dX7_range_47 : decode cX7_range 47 = .ok (.ireturn, 1) := by decide +kernel
theorem dX7_range_48 : decode cX7_range 48 = .ok (.aload_n 0, 1) := by decide +kernel
theorem dX7_range_49 : decode cX7_range 49 = .ok (.invokevirtual 141, 3) := by decide +kernel
theorem dX7_range_52 : decode cX7_range 52 = .ok (.sipush 10000, 3) := by decide +kernel
theorem dX7_range_55 : decode cX7_range 55 = .ok (.aload_n 0, 1) := by decide +kernel
theorem dX7_range_56 : decode cX7_range 56 = .ok (.iload_n 1, 1) := by decide +kernel
theorem dX7_range_57 : decode cX7_range 57 = .ok (.iconst 1, 1) := by decide +kernel
theorem dX7_range_58 : decode cX7_range 58 = .ok (.invokevirtual 89, 3) := by decide +kernel
theorem dX7_range_61 : decode cX7_range 61 = .ok (.imul, 1) := by decide +kernel
theorem dX7_range_62 : decode cX7_range 62 = .ok (.aload_n 0, 1) := by decide +kernel
theorem dX7_range_63 : decode cX7_range 63 = .ok (.iload_n 1, 1) := by decide +kernel
theorem dX7_range_64 : decode cX7_range 64 = .ok (.iconst 2, 1) := by decide +kernel
theorem dX7_range_65 : decode cX7_range 65 = .ok (.invokevirtual 89, 3) := by decide +kernel
theorem dX7_range_68 : decode cX7_range 68 = .ok (.iadd, 1) := by decide +kernel
theorem dX7_range_69 : decode cX7_range 69 = .ok (.istore 4, 2) := by decide +kernel
theorem dX7_range_71 : decode cX7_range 71 = .ok (.aload_n 0, 1) := by decide +kernel
theorem dX7_range_72 : decode cX7_range 72 = .ok (.getfield 7, 3) := by decide +kernel
theorem dX7_range_75 : decode cX7_range 75 = .ok (.bipush 15, 2) := by decide +kernel
theorem dX7_range_77 : decode cX7_range 77 = .ok (.iconst 5, 1) := by decide +kernel
theorem dX7_range_78 : decode cX7_range 78 = .ok (.iload_n 1, 1) := by decide +kernel
theorem dX7_range_79 : decode cX7_range 79 = .ok (.imul, 1) := by decide +kernel
theorem dX7_range_80 : decode cX7_range 80 = .ok (.iadd, 1) := by decide +kernel
theorem dX7_range_81 : decode cX7_range 81 = .ok (.iconst 1, 1) := by decide +kernel
theorem dX7_range_82 : decode cX7_range 82 = .ok (.iadd, 1) := by decide +kernel
theorem dX7_range_83 : decode cX7_range 83 = .ok (.iload_n 2, 1) := by decide +kernel
theorem dX7_range_84 : decode cX7_range 84 = .ok (.iastore, 1) := by decide +kernel
theorem dX7_range_85 : decode cX7_range 85 = .ok (.aload_n 0, 1) := by decide +kernel
theorem dX7_range_86 : decode cX7_range 86 = .ok (.getfield 7, 3) := by decide +kernel
theorem dX7_range_89 : decode cX7_range 89 = .ok (.bipush 15, 2) := by decide +kernel
theorem dX7_range_91 : decode cX7_range 91 = .ok (.iconst 5, 1) := by decide +kernel
theorem dX7_range_92 : decode cX7_range 92 = .ok (.iload_n 1, 1) := by decide +kernel
theorem dX7_range_93 : decode cX7_range 93 = .ok (.imul, 1) := by decide +kernel
theorem dX7_range_94 : decode cX7_range 94 = .ok (.iadd, 1) := by decide +kernel
theorem dX7_range_95 : decode cX7_range 95 = .ok (.iconst 2, 1) := by decide +kernel
theorem dX7_range_96 : decode cX7_range 96 = .ok (.iadd, 1) := by decide +kernel
theorem dX7_range_97 : decode cX7_range 97 = .ok (.iload_n 3, 1) := by decide +kernel
theorem dX7_range_98 : decode cX7_range 98 = .ok (.iastore, 1) := by decide +kernel
theorem dX7_range_99 : decode cX7_range 99 = .ok (.iload 4, 2) := by decide +kernel
theorem dX7_range_101 : decode cX7_range 101 = .ok (.ireturn, 1) := by decide +kernel
theorem dX7_die_0 : decode cX7_die 0 = .ok (.aload_n 0, 1) := by decide +kernel
theorem dX7_die_1 : decode cX7_die 1 = .ok (.iconst 0, 1) := by decide +kernel
theorem dX7_die_2 : decode cX7_die 2 = .ok (.putfield 25, 3) := by decide +kernel
theorem dX7_die_5 : decode cX7_die 5 = .ok (.iload_n 1, 1) := by decide +kernel
theorem dX7_die_6 : decode cX7_die 6 = .ok (.invokestatic 144, 3) := by decide +kernel
theorem dX7_die_9 : decode cX7_die 9 = .ok (.ifCond .ne 9, 3) := by decide +kernel
theorem dX7_die_12 : decode cX7_die 12 = .ok (.aload_n 0, 1) := by decide +kernel
theorem dX7_die_13 : decode cX7_die 13 = .ok (.iconst 1, 1) := by decide +kernel
theorem dX7_die_14 : decode cX7_die 14 = .ok (.invokevirtual 138, 3) := by decide +kernel
theorem dX7_die_17 : decode cX7_die 17 = .ok (.ireturn, 1) := by decide +kernel
theorem dX7_die_18 : decode cX7_die 18 = .ok (.iload_n 2, 1) := by decide +kernel
theorem dX7_die_19 : decode cX7_die 19 = .ok (.iconst 1, 1) := by decide +kernel
theorem dX7_die_20 : decode cX7_die 20 = .ok (.bipush 9, 2) := by decide +kernel
theorem dX7_die_22 : decode cX7_die 22 = .ok (.invokestatic 29, 3) := by decide +kernel
theorem dX7_die_25 : decode cX7_die 25 = .ok (.ifCond .eq 15, 3) := by decide +kernel
theorem dX7_die_28 : decode cX7_die 28 = .ok (.iload_n 3, 1) := by decide +kernel
theorem dX7_die_29 : decode cX7_die 29 = .ok (.bipush 10, 2) := by decide +kernel
theorem dX7_die_31 : decode cX7_die 31 = .ok (.sipush 300, 3) := by decide +kernel
theorem dX7_die_34 : decode cX7_die 34 = .ok (.invokestatic 29, 3) := by decide +kernel
theorem dX7_die_37 : decode cX7_die 37 = .ok (.ifCond .ne 9, 3) := by decide +kernel
theorem dX7_die_40 : decode cX7_die 40 = .ok (.aload_n 0, 1) := by decide +kernel
theorem dX7_die_41 : decode cX7_die 41 = .ok (.iconst 2, 1) := by decide +kernel
theorem dX7_die_42 : decode cX7_die 42 = .ok (.invokevirtual 138, 3) := by decide +kernel
theorem dX7_die_45 : decode cX7_die 45 = .ok (.ireturn, 1) := by decide +kernel
theorem dX7_die_46 : decode cX7_die 46 = .ok (.aload_n 0, 1) := by decide +kernel
theorem dX7_die_47 : decode cX7_die 47 = .ok (.iload_n 1, 1) := by decide +kernel
theorem dX7_die_48 : decode cX7_die 48 = .ok (.invokevirtual 44, 3) := by decide +kernel
theorem dX7_die_51 : decode cX7_die 51 = .ok (.ifCond .eq 9, 3) := by decide +kernel
theorem dX7_die_54 : decode cX7_die 54 = .ok (.aload_n 0, 1) := by decide +kernel
theorem dX7_die_55 : decode cX7_die 55 = .ok (.iconst 3, 1) := by decide +kernel
theorem dX7_die_56 : decode cX7_die 56 = .ok (.invokevirtual 138, 3) := by decide +kernel
theorem dX7_die_59 : decode cX7_die 59 = .ok (.ireturn, 1) := by decide +kernel
theorem dX7_die_60 : decode cX7_die 60 = .ok (.aload_n 0, 1) := by decide +kernel
theorem dX7_die_61 : decode cX7_die 61 = .ok (.invokevirtual 141, 3) := by decide +kernel
theorem dX7_die_64 : decode cX7_die 64 = .ok (.aload_n 0, 1) := by decide +kernel
theorem dX7_die_65 : decode cX7_die 65 = .ok (.iload_n 1, 1) := by decide +kernel
theorem dX7_die_66 : decode cX7_die 66 = .ok (.iconst 2, 1) := by decide +kernel
theorem dX7_die_67 : decode cX7_die 67 = .ok (.invokevirtual 36, 3) := by decide +kernel
theorem dX7_die_70 : decode cX7_die 70 = .ok (.istore 4, 2) := by decide +kernel
theorem dX7_die_72 : decode cX7_die 72 = .ok (.aload_n 0, 1) := by decide +kernel
theorem dX7_die_73 : decode cX7_die 73 = .ok (.getfield 7, 3) := by decide +kernel
theorem dX7_die_76 : decode cX7_die 76 = .ok (.bipush 35, 2) := by decide +kernel
theorem dX7_die_78 : decode cX7_die 78 = .ok (.iconst 5, 1) := by decide +kernel
theorem dX7_die_79 : decode cX7_die 79 = .ok (.iload_n 1, 1) := by decide +kernel
theorem dX7_die_80 : decode cX7_die 80 = .ok (.imul, 1) := by decide +kernel
theorem dX7_die_81 : decode cX7_die 81 = .ok (.iadd, 1) := by decide +kernel
theorem dX7_die_82 : decode cX7_die 82 = .ok (.iconst 0, 1) := by decide +kernel
theorem dX7_die_83 : decode cX7_die 83 = .ok (.iadd, 1) := by decide +kernel
theorem dX7_die_84 : decode cX7_die 84 = .ok (.iload_n 2, 1) := by decide +kernel
theorem dX7_die_85 : decode cX7_die 85 = .ok (.iastore, 1) := by decide +kernel
theorem dX7_die_86 : decode cX7_die 86 = .ok (.aload_n 0, 1) := by decide +kernel
theorem dX7_die_87 : decode cX7_die 87 = .ok (.getfield 7, 3) := by decide +kernel
theorem dX7_die_90 : decode cX7_die 90 = .ok (.bipush 35, 2) := by decide +kernel
theorem dX7_die_92 : decode cX7_die 92 = .ok (.iconst 5, 1) := by decide +kernel
theorem dX7_die_93 : decode cX7_die 93 = .ok (.iload_n 1, 1) := by decide +kernel
theorem dX7_die_94 : decode cX7_die 94 = .ok (.imul, 1) := by decide +kernel
theorem dX7_die_95 : decode cX7_die 95 = .ok (.iadd, 1) := by decide +kernel
theorem dX7_die_96 : decode cX7_die 96 = .ok (.iconst 1, 1) := by decide +kernel
theorem dX7_die_97 : decode cX7_die 97 = .ok (.iadd, 1) := by decide +kernel
theorem dX7_die_98 : decode cX7_die 98 = .ok (.iload_n 3, 1) := by decide +kernel
theorem dX7_die_99 : decode cX7_die 99 = .ok (.iastore, 1) := by decide +kernel
theorem dX7_die_100 : decode cX7_die 100 = .ok (.aload_n 0, 1) := by decide +kernel
theorem dX7_die_101 : decode cX7_die 101 = .ok (.getfield 7, 3) := by decide +kernel
theorem dX7_die_104 : decode cX7_die 104 = .ok (.bipush 35, 2) := by decide +kernel
theorem dX7_die_106 : decode cX7_die 106 = .ok (.iconst 5, 1) := by decide +kernel
theorem dX7_die_107 : decode cX7_die 107 = .ok (.iload_n 1, 1) := by decide +kernel
theorem dX7_die_108 : decode cX7_die 108 = .ok (.imul, 1) := by decide +kernel
theorem dX7_die_109 : decode cX7_die 109 = .ok (.iadd, 1) := by decide +kernel
theorem dX7_die_110 : decode cX7_die 110 = .ok (.iconst 2, 1) := by decide +kernel
theorem dX7_die_111 : decode cX7_die 111 = .ok (.iadd, 1) := by decide +kernel
theorem dX7_die_112 : decode cX7_die 112 = .ok (.iconst 0, 1) := by decide +kernel
theorem dX7_die_113 : decode cX7_die 113 = .ok (.iastore, 1) := by decide +kernel
theorem dX7_die_114 : decode cX7_die 114 = .ok (.iload 4, 2) := by decide +kernel
theorem dX7_die_116 : decode cX7_die 116 = .ok (.ireturn, 1) := by decide +kernel
theorem dX7_grind_0 : decode cX7_grind 0 = .ok (.aload_n 0, 1) := by decide +kernel
theorem dX7_grind_1 : decode cX7_grind 1 = .ok (.iconst 0, 1) := by decide +kernel
theorem dX7_grind_2 : decode cX7_grind 2 = .ok (.putfield 25, 3) := by decide +kernel
theorem dX7_grind_5 : decode cX7_grind 5 = .ok (.iload_n 1, 1) := by decide +kernel
theorem dX7_grind_6 : decode cX7_grind 6 = .ok (.invokestatic 144, 3) := by decide +kernel
theorem dX7_grind_9 : decode cX7_grind 9 = .ok (.ifCond .ne 9, 3) := by decide +kernel
theorem dX7_grind_12 : decode cX7_grind 12 = .ok (.aload_n 0, 1) := by decide +kernel
theorem dX7_grind_13 : decode cX7_grind 13 = .ok (.iconst 1, 1) := by decide +kernel
theorem dX7_grind_14 : decode cX7_grind 14 = .ok (.invokevirtual 138, 3) := by decide +kernel
theorem dX7_grind_17 : decode cX7_grind 17 = .ok (.ireturn, 1) := by decide +kernel
theorem dX7_grind_18 : decode cX7_grind 18 = .ok (.aload_n 0, 1) := by decide +kernel
theorem dX7_grind_19 : decode cX7_grind 19 = .ok (.getfield 7, 3) := by decide +kernel
theorem dX7_grind_22 : decode cX7_grind 22 = .ok (.bipush 13, 2) := by decide +kernel
theorem dX7_grind_24 : decode cX7_grind 24 = .ok (.iaload, 1) := by decide +kernel
theorem dX7_grind_25 : decode cX7_grind 25 = .ok (.ifCond .le 9, 3) := by decide +kernel
theorem dX7_grind_28 : decode cX7_grind 28 = .ok (.aload_n 0, 1) := by decide +kernel
theorem dX7_grind_29 : decode cX7_grind 29 = .ok (.iconst 2, 1) := by decide +kernel
theorem dX7_grind_30 : decode cX7_grind 30 = .ok (.invokevirtual 138, 3) := by decide +kernel
theorem dX7_grind_33 : decode cX7_grind 33 = .ok (.ireturn, 1) := by decide +kernel
theorem dX7_grind_34 : decode cX7_grind 34 = .ok (.aload_n 0, 1) := by decide +kernel
theorem dX7_grind_35 : decode cX7_grind 35 = .ok (.invokevirtual 141, 3) := by decide +kernel
theorem dX7_grind_38 : decode cX7_grind 38 = .ok (.aload_n 0, 1) := by decide +kernel
theorem dX7_grind_39 : decode cX7_grind 39 = .ok (.iload_n 1, 1) := by decide +kernel
theorem dX7_grind_40 : decode cX7_grind 40 = .ok (.invokevirtual 114, 3) := by decide +kernel
theorem dX7_grind_43 : decode cX7_grind 43 = .ok (.aload_n 0, 1) := by decide +kernel
theorem dX7_grind_44 : decode cX7_grind 44 = .ok (.iload_n 1, 1) := by decide +kernel
theorem dX7_grind_45 : decode cX7_grind 45 = .ok (.iconst 2, 1) := by decide +kernel
theorem dX7_grind_46 : decode cX7_grind 46 = .ok (.invokevirtual 36, 3) := by decide +kernel
theorem dX7_grind_49 : decode cX7_grind 49 = .ok (.ireturn, 1) := by decide +kernel
theorem dX7_comes_0 : decode cX7_comes 0 = .ok (.bipush 60, 2) := by decide +kernel
theorem dX7_comes_2 : decode cX7_comes 2 = .ok (.bipush 7, 2) := by decide +kernel
theorem dX7_comes_4 : decode cX7_comes 4 = .ok (.aload_n 0, 1) := by decide +kernel
theorem dX7_comes_5 : decode cX7_comes 5 = .ok (.getfield 7, 3) := by decide +kernel
theorem dX7_comes_8 : decode cX7_comes 8 = .ok (.iconst 5, 1) := by decide +kernel
theorem dX7_comes_9 : decode cX7_comes 9 = .ok (.iaload, 1) := by decide +kernel
theorem dX7_comes_10 : decode cX7_comes 10 = .ok (.imul, 1) := by decide +kernel
theorem dX7_comes_11 : decode cX7_comes 11 = .ok (.iadd, 1) := by decide +kernel
theorem dX7_comes_12 : decode cX7_comes 12 = .ok (.istore 6, 2) := by decide +kernel
theorem dX7_comes_14 : decode cX7_comes 14 = .ok (.aload_n 0, 1) := by decide +kernel
theorem dX7_comes_15 : decode cX7_comes 15 = .ok (.getfield 7, 3) := by decide +kernel
theorem dX7_comes_18 : decode cX7_comes 18 = .ok (.iload 6, 2) := by decide +kernel
theorem dX7_comes_20 : decode cX7_comes 20 = .ok (.iconst 0, 1) := by decide +kernel
theorem dX7_comes_21 : decode cX7_comes 21 = .ok (.iadd, 1) := by decide +kernel
theorem dX7_comes_22 : decode cX7_comes 22 = .ok (.aload_n 0, 1) := by decide +kernel
theorem dX7_comes_23 : decode cX7_comes 23 = .ok (.getfield 7, 3) := by decide +kernel
theorem dX7_comes_26 : decode cX7_comes 26 = .ok (.bipush 6, 2) := by decide +kernel
theorem dX7_comes_28 : decode cX7_comes 28 = .ok (.iaload, 1) := by decide +kernel
theorem dX7_comes_29 : decode cX7_comes 29 = .ok (.iastore, 1) := by decide +kernel
theorem dX7_comes_30 : decode cX7_comes 30 = .ok (.aload_n 0, 1) := by decide +kernel
theorem dX7_comes_31 : decode cX7_comes 31 = .ok (.getfield 7, 3) := by decide +kernel
theorem dX7_comes_34 : decode cX7_comes 34 = .ok (.iload 6, 2) := by decide +kernel
theorem dX7_comes_36 : decode cX7_comes 36 = .ok (.iconst 1, 1) := by decide +kernel
theorem dX7_comes_37 : decode cX7_comes 37 = .ok (.iadd, 1) := by decide +kernel
theorem dX7_comes_38 : decode cX7_comes 38 = .ok (.iload_n 1, 1) := by decide +kernel
theorem dX7_comes_39 : decode cX7_comes 39 = .ok (.iastore, 1) := by decide +kernel
theorem dX7_comes_40 : decode cX7_comes 40 = .ok (.aload_n 0, 1) := by decide +kernel
theorem dX7_comes_41 : decode cX7_comes 41 = .ok (.getfield 7, 3) := by decide +kernel
theorem dX7_comes_44 : decode cX7_comes 44 = .ok (.iload 6, 2) := by decide +kernel
theorem dX7_comes_46 : decode cX7_comes 46 = .ok (.iconst 2, 1) := by decide +kernel
theorem dX7_comes_47 : decode cX7_comes 47 = .ok (.iadd, 1) := by decide +kernel
theorem dX7_comes_48 : decode cX7_comes 48 = .ok (.iload_n 2, 1) := by decide +kernel
theorem dX7_comes_49 : decode cX7_comes 49 = .ok (.iastore, 1) := by decide +kernel
theorem dX7_comes_50 : decode cX7_comes 50 = .ok (.aload_n 0, 1) := by decide +kernel
theorem dX7_comes_51 : decode cX7_comes 51 = .ok (.getfield 7, 3) := by decide +kernel
theorem dX7_comes_54 : decode cX7_comes 54 = .ok (.iload 6, 2) := by decide +kernel
theorem dX7_comes_56 : decode cX7_comes 56 = .ok (.iconst 3, 1) := by decide +kernel
theorem dX7_comes_57 : decode cX7_comes 57 = .ok (.iadd, 1) := by decide +kernel
theorem dX7_comes_58 : decode cX7_comes 58 = .ok (.iload_n 3, 1) := by decide +kernel
theorem dX7_comes_59 : decode cX7_comes 59 = .ok (.iastore, 1) := by decide +kernel
theorem dX7_comes_60 : decode cX7_comes 60 = .ok (.aload_n 0, 1) := by decide +kernel
theorem dX7_comes_61 : decode cX7_comes 61 = .ok (.getfield 7, 3) := by decide +kernel
theorem dX7_comes_64 : decode cX7_comes 64 = .ok (.iload 6, 2) := by decide +kernel
theorem dX7_comes_66 : decode cX7_comes 66 = .ok (.iconst 4, 1) := by decide +kernel
theorem dX7_comes_67 : decode cX7_comes 67 = .ok (.iadd, 1) := by decide +kernel
theorem dX7_comes_68 : decode cX7_comes 68 = .ok (.iconst 0, 1) := by decide +kernel
theorem dX7_comes_69 : decode cX7_comes 69 = .ok (.iastore, 1) := by decide +kernel
theorem dX7_comes_70 : decode cX7_comes 70 = .ok (.aload_n 0, 1) := by decide +kernel
theorem dX7_comes_71 : decode cX7_comes 71 = .ok (.getfield 7, 3) := by decide +kernel
theorem dX7_comes_74 : decode cX7_comes 74 = .ok (.iload 6, 2) := by decide +kernel
theorem dX7_comes_76 : decode cX7_comes 76 = .ok (.iconst 5, 1) := by decide +kernel
theorem dX7_comes_77 : decode cX7_comes 77 = .ok (.iadd, 1) := by decide +kernel
theorem dX7_comes_78 : decode cX7_comes 78 = .ok (.iload 4, 2) := by decide +kernel
theorem dX7_comes_80 : decode cX7_comes 80 = .ok (.iastore, 1) := by decide +kernel
theorem dX7_comes_81 : decode cX7_comes 81 = .ok (.aload_n 0, 1) := by decide +kernel
theorem dX7_comes_82 : decode cX7_comes 82 = .ok (.getfield 7, 3) := by decide +kernel
theorem dX7_comes_85 : decode cX7_comes 85 = .ok (.iload 6, 2) := by decide +kernel
theorem dX7_comes_87 : decode cX7_comes 87 = .ok (.bipush 6, 2) := by decide +kernel
theorem dX7_comes_89 : decode cX7_comes 89 = .ok (.iadd, 1) := by decide +kernel
theorem dX7_comes_90 : decode cX7_comes 90 = .ok (.iload 5, 2) := by decide +kernel
theorem dX7_comes_92 : decode cX7_comes 92 = .ok (.iastore, 1) := by decide +kernel
theorem dX7_comes_93 : decode cX7_comes 93 = .ok (.aload_n 0, 1) := by decide +kernel
theorem dX7_comes_94 : decode cX7_comes 94 = .ok (.getfield 7, 3) := by decide +kernel
theorem dX7_comes_97 : decode cX7_comes 97 = .ok (.iconst 5, 1) := by decide +kernel
theorem dX7_comes_98 : decode cX7_comes 98 = .ok (.dup2, 1) := by decide +kernel
theorem dX7_comes_99 : decode cX7_comes 99 = .ok (.iaload, 1) := by decide +kernel
theorem dX7_comes_100 : decode cX7_comes 100 = .ok (.iconst 1, 1) := by decide +kernel
theorem dX7_comes_101 : decode cX7_comes 101 = .ok (.iadd, 1) := by decide +kernel
theorem dX7_comes_102 : decode cX7_comes 102 = .ok (.iastore, 1) := by decide +kernel
theorem dX7_comes_103 : decode cX7_comes 103 = .ok (.aload_n 0, 1) := by decide +kernel
theorem dX7_comes_104 : decode cX7_comes 104 = .ok (.getfield 7, 3) := by decide +kernel
theorem dX7_comes_107 : decode cX7_comes 107 = .ok (.bipush 6, 2) := by decide +kernel
theorem dX7_comes_109 : decode cX7_comes 109 = .ok (.dup2, 1) := by decide +kernel
theorem dX7_comes_110 : decode cX7_comes 110 = .ok (.iaload, 1) := by decide +kernel
theorem dX7_comes_111 : decode cX7_comes 111 = .ok (.iconst 1, 1) := by decide +kernel
theorem dX7_comes_112 : decode cX7_comes 112 = .ok (.iadd, 1) := by decide +kernel
theorem dX7_comes_113 : decode cX7_comes 113 = .ok (.iastore, 1) := by decide +kernel
theorem dX7_comes_114 : decode cX7_comes 114 = .ok (.return_, 1) := by decide +kernel
theorem dX7_job_0 : decode cX7_job 0 = .ok (.aload_n 0, 1) := by decide +kernel
theorem dX7_job_1 : decode cX7_job 1 = .ok (.iconst 0, 1) := by decide +kernel
theorem dX7_job_2 : decode cX7_job 2 = .ok (.putfield 25, 3) := by decide +kernel
theorem dX7_job_5 : decode cX7_job 5 = .ok (.iload_n 1, 1) := by decide +kernel
theorem dX7_job_6 : decode cX7_job 6 = .ok (.invokestatic 144, 3) := by decide +kernel
theorem dX7_job_9 : decode cX7_job 9 = .ok (.ifCond .eq 10, 3) := by decide +kernel
theorem dX7_job_12 : decode cX7_job 12 = .ok (.iload_n 2, 1) := by decide +kernel
theorem dX7_job_13 : decode cX7_job 13 = .ok (.invokestatic 135, 3) := by decide +kernel
theorem dX7_job_16 : decode cX7_job 16 = .ok (.ifCond .ne 9, 3) := by decide +kernel
theorem dX7_job_19 : decode cX7_job 19 = .ok (.aload_n 0, 1) := by decide +kernel
theorem dX7_job_20 : decode cX7_job 20 = .ok (.iconst 1, 1) := by decide +kernel
theorem dX7_job_21 : decode cX7_job 21 = .ok (.invokevirtual 138, 3) := by decide +kernel
theorem dX7_job_24 : decode cX7_job 24 = .ok (.ireturn, 1) := by decide +kernel
theorem dX7_job_25 : decode cX7_job 25 = .ok (.iload_n 3, 1) := by decide +kernel
theorem dX7_job_26 : decode cX7_job 26 = .ok (.iconst 1, 1) := by decide +kernel
theorem dX7_job_27 : decode cX7_job 27 = .ok (.bipush 40, 2) := by decide +kernel
theorem dX7_job_29 : decode cX7_job 29 = .ok (.invokestatic 29, 3) := by decide +kernel
theorem dX7_job_32 : decode cX7_job 32 = .ok (.ifCond .eq 15, 3) := by decide +kernel
theorem dX7_job_35 : decode cX7_job 35 = .ok (.iload 4, 2) := by decide +kernel
theorem dX7_job_37 : decode cX7_job 37 = .ok (.iconst 0, 1) := by decide +kernel
theorem dX7_job_38 : decode cX7_job 38 = .ok (.sipush 9999, 3) := by decide +kernel
theorem dX7_job_41 : decode cX7_job 41 = .ok (.invokestatic 29, 3) := by decide +kernel
theorem dX7_job_44 : decode cX7_job 44 = .ok (.ifCond .ne 9, 3) := by decide +kernel
theorem dX7_job_47 : decode cX7_job 47 = .ok (.aload_n 0, 1) := by decide +kernel
theorem dX7_job_48 : decode cX7_job 48 = .ok (.iconst 2, 1) := by decide +kernel
theorem dX7_job_49 : decode cX7_job 49 = .ok (.invokevirtual 138, 3) := by decide +kernel
theorem dX7_job_52 : decode cX7_job 52 = .ok (.ireturn, 1) := by decide +kernel
theorem dX7_job_53 : decode cX7_job 53 = .ok (.aload_n 0, 1) := by decide +kernel
theorem dX7_job_54 : decode cX7_job 54 = .ok (.getfield 7, 3) := by decide +kernel
theorem dX7_job_57 : decode cX7_job 57 = .ok (.iconst 5, 1) := by decide +kernel
theorem dX7_job_58 : decode cX7_job 58 = .ok (.iaload, 1) := by decide +kernel
theorem dX7_job_59 : decode cX7_job 59 = .ok (.bipush 10, 2) := by decide +kernel
theorem dX7_job_61 : decode cX7_job 61 = .ok (.if_icmp .ne 9, 3) := by decide +kernel
theorem dX7_job_64 : decode cX7_job 64 = .ok (.aload_n 0, 1) := by decide +kernel
theorem dX7_job_65 : decode cX7_job 65 = .ok (.iconst 3, 1) := by decide +kernel
theorem dX7_job_66 : decode cX7_job 66 = .ok (.invokevirtual 138, 3) := by decide +kernel
theorem dX7_job_69 : decode cX7_job 69 = .ok (.ireturn, 1) := by decide +kernel
theorem dX7_job_70 : decode cX7_job 70 = .ok (.aload_n 0, 1) := by decide +kernel
theorem dX7_job_71 : decode cX7_job 71 = .ok (.invokevirtual 141, 3) := by decide +kernel
theorem dX7_job_74 : decode cX7_job 74 = .ok (.aload_n 0, 1) := by decide +kernel
theorem dX7_job_75 : decode cX7_job 75 = .ok (.iload_n 1, 1) := by decide +kernel
theorem dX7_job_76 : decode cX7_job 76 = .ok (.iload_n 2, 1) := by decide +kernel
theorem dX7_job_77 : decode cX7_job 77 = .ok (.iload_n 3, 1) := by decide +kernel
theorem dX7_job_78 : decode cX7_job 78 = .ok (.iload 4, 2) := by decide +kernel
theorem dX7_job_80 : decode cX7_job 80 = .ok (.iload 5, 2) := by decide +kernel
theorem dX7_job_82 : decode cX7_job 82 = .ok (.ifCond .eq 7, 3) := by decide +kernel
theorem dX7_job_85 : decode cX7_job 85 = .ok (.iconst 1, 1) := by decide +kernel
theorem dX7_job_86 : decode cX7_job 86 = .ok (.goto 4, 3) := by decide +kernel
theorem dX7_job_89 : decode cX7_job 89 = .ok (.iconst 0, 1) := by decide +kernel
theorem dX7_job_90 : decode cX7_job 90 = .ok (.invokevirtual 147, 3) := by decide +kernel
theorem dX7_job_93 : decode cX7_job 93 = .ok (.aload_n 0, 1) := by decide +kernel
theorem dX7_job_94 : decode cX7_job 94 = .ok (.getfield 7, 3) := by decide +kernel
theorem dX7_job_97 : decode cX7_job 97 = .ok (.bipush 6, 2) := by decide +kernel
theorem dX7_job_99 : decode cX7_job 99 = .ok (.iaload, 1) := by decide +kernel
theorem dX7_job_100 : decode cX7_job 100 = .ok (.iconst 1, 1) := by decide +kernel
theorem dX7_job_101 : decode cX7_job 101 = .ok (.isub, 1) := by decide +kernel
theorem dX7_job_102 : decode cX7_job 102 = .ok (.ireturn, 1) := by decide +kernel
theorem dX7_cancel_0 : decode cX7_cancel 0 = .ok (.aload_n 0, 1) := by decide +kernel
theorem dX7_cancel_1 : decode cX7_cancel 1 = .ok (.iconst 0, 1) := by decide +kernel
theorem dX7_cancel_2 : decode cX7_cancel 2 = .ok (.putfield 25, 3) := by decide +kernel
theorem dX7_cancel_5 : decode cX7_cancel 5 = .ok (.aload_n 0, 1) := by decide +kernel
theorem dX7_cancel_6 : decode cX7_cancel 6 = .ok (.iload_n 1, 1) := by decide +kernel
theorem dX7_cancel_7 : decode cX7_cancel 7 = .ok (.invokevirtual 61, 3) := by decide +kernel
theorem dX7_cancel_10 : decode cX7_cancel 10 = .ok (.istore_n 2, 1) := by decide +kernel
theorem dX7_cancel_11 : decode cX7_cancel 11 = .ok (.iload_n 2, 1) := by decide +kernel
theorem dX7_cancel_12 : decode cX7_cancel 12 = .ok (.iconst (-1), 1) := by decide +kernel
theorem dX7_cancel_13 : decode cX7_cancel 13 = .ok (.if_icmp .ne 9, 3) := by decide +kernel
theorem dX7_cancel_16 : decode cX7_cancel 16 = .ok (.aload_n 0, 1) := by decide +kernel
theorem dX7_cancel_17 : decode cX7_cancel 17 = .ok (.iconst 1, 1) := by decide +kernel
theorem dX7_cancel_18 : decode cX7_cancel 18 = .ok (.invokevirtual 138, 3) := by decide +kernel
theorem dX7_cancel_21 : decode cX7_cancel 21 = .ok (.ireturn, 1) := by decide +kernel
theorem dX7_cancel_22 : decode cX7_cancel 22 = .ok (.aload_n 0, 1) := by decide +kernel
theorem dX7_cancel_23 : decode cX7_cancel 23 = .ok (.invokevirtual 141, 3) := by decide +kernel
theorem dX7_cancel_26 : decode cX7_cancel 26 = .ok (.iconst 0, 1) := by decide +kernel
theorem dX7_cancel_27 : decode cX7_cancel 27 = .ok (.istore_n 3, 1) := by decide +kernel
theorem dX7_cancel_28 : decode cX7_cancel 28 = .ok (.iconst 0, 1) := by decide +kernel
theorem dX7_cancel_29 : decode cX7_cancel 29 = .ok (.istore 4, 2) := by decide +kernel
theorem dX7_cancel_31 : decode cX7_cancel 31 = .ok (.iload 4, 2) := by decide +kernel
theorem dX7_cancel_33 : decode cX7_cancel 33 = .ok (.bipush 6, 2) := by decide +kernel
theorem dX7_cancel_35 : decode cX7_cancel 35 = .ok (.if_icmp .gt 28, 3) := by decide +kernel
theorem dX7_cancel_38 : decode cX7_cancel 38 = .ok (.aload_n 0, 1) := by decide +kernel
theorem dX7_cancel_39 : decode cX7_cancel 39 = .ok (.iload 4, 2) := by decide +kernel
theorem dX7_cancel_41 : decode cX7_cancel 41 = .ok (.invokevirtual 64, 3) := by decide +kernel
theorem dX7_cancel_44 : decode cX7_cancel 44 = .ok (.iload_n 2, 1) := by decide +kernel
theorem dX7_cancel_45 : decode cX7_cancel 45 = .ok (.if_icmp .ne 12, 3) := by decide +kernel
theorem dX7_cancel_48 : decode cX7_cancel 48 = .ok (.aload_n 0, 1) := by decide +kernel
theorem dX7_cancel_49 : decode cX7_cancel 49 = .ok (.iload 4, 2) := by decide +kernel
theorem dX7_cancel_51 : decode cX7_cancel 51 = .ok (.invokevirtual 92, 3) := by decide +kernel
theorem dX7_cancel_54 : decode cX7_cancel 54 = .ok (.iinc 3 1, 3) := by decide +kernel
theorem dX7_cancel_57 : decode cX7_cancel 57 = .ok (.iinc 4 1, 3) := by decide +kernel
theorem dX7_cancel_60 : decode cX7_cancel 60 = .ok (.goto (-29), 3) := by decide +kernel
theorem dX7_cancel_63 : decode cX7_cancel 63 = .ok (.aload_n 0, 1) := by decide +kernel
theorem dX7_cancel_64 : decode cX7_cancel 64 = .ok (.iload_n 2, 1) := by decide +kernel
theorem dX7_cancel_65 : decode cX7_cancel 65 = .ok (.invokevirtual 99, 3) := by decide +kernel
theorem dX7_cancel_68 : decode cX7_cancel 68 = .ok (.iload_n 3, 1) := by decide +kernel
theorem dX7_cancel_69 : decode cX7_cancel 69 = .ok (.ireturn, 1) := by decide +kernel
theorem dX7_rush_0 : decode cX7_rush 0 = .ok (.aload_n 0, 1) := by decide +kernel
theorem dX7_rush_1 : decode cX7_rush 1 = .ok (.iconst 0, 1) := by decide +kernel
theorem dX7_rush_2 : decode cX7_rush 2 = .ok (.putfield 25, 3) := by decide +kernel
theorem dX7_rush_5 : decode cX7_rush 5 = .ok (.aload_n 0, 1) := by decide +kernel
theorem dX7_rush_6 : decode cX7_rush 6 = .ok (.iload_n 1, 1) := by decide +kernel
theorem dX7_rush_7 : decode cX7_rush 7 = .ok (.invokevirtual 61, 3) := by decide +kernel
theorem dX7_rush_10 : decode cX7_rush 10 = .ok (.istore_n 3, 1) := by decide +kernel
theorem dX7_rush_11 : decode cX7_rush 11 = .ok (.iload_n 3, 1) := by decide +kernel
theorem dX7_rush_12 : decode cX7_rush 12 = .ok (.iconst (-1), 1) := by decide +kernel
theorem dX7_rush_13 : decode cX7_rush 13 = .ok (.if_icmp .ne 9, 3) := by decide +kernel
theorem dX7_rush_16 : decode cX7_rush 16 = .ok (.aload_n 0, 1) := by decide +kernel
theorem dX7_rush_17 : decode cX7_rush 17 = .ok (.iconst 1, 1) := by decide +kernel
theorem dX7_rush_18 : decode cX7_rush 18 = .ok (.invokevirtual 138, 3) := by decide +kernel
theorem dX7_rush_21 : decode cX7_rush 21 = .ok (.ireturn, 1) := by decide +kernel
theorem dX7_rush_22 : decode cX7_rush 22 = .ok (.aload_n 0, 1) := by decide +kernel
theorem dX7_rush_23 : decode cX7_rush 23 = .ok (.invokevirtual 141, 3) := by decide +kernel
theorem dX7_rush_26 : decode cX7_rush 26 = .ok (.aload_n 0, 1) := by decide +kernel
theorem dX7_rush_27 : decode cX7_rush 27 = .ok (.getfield 7, 3) := by decide +kernel
theorem dX7_rush_30 : decode cX7_rush 30 = .ok (.bipush 60, 2) := by decide +kernel
theorem dX7_rush_32 : decode cX7_rush 32 = .ok (.bipush 7, 2) := by decide +kernel
theorem dX7_rush_34 : decode cX7_rush 34 = .ok (.iload_n 3, 1) := by decide +kernel
theorem dX7_rush_35 : decode cX7_rush 35 = .ok (.imul, 1) := by decide +kernel
theorem dX7_rush_36 : decode cX7_rush 36 = .ok (.iadd, 1) := by decide +kernel
theorem dX7_rush_37 : decode cX7_rush 37 = .ok (.bipush 6, 2) := by decide +kernel
theorem dX7_rush_39 : decode cX7_rush 39 = .ok (.iadd, 1) := by decide +kernel
theorem dX7_rush_40 : decode cX7_rush 40 = .ok (.iload_n 2, 1) := by decide +kernel
theorem dX7_rush_41 : decode cX7_rush 41 = .ok (.ifCond .eq 7, 3) := by decide +kernel
theorem dX7_rush_44 : decode cX7_rush 44 = .ok (.iconst 1, 1) := by decide +kernel
theorem dX7_rush_45 : decode cX7_rush 45 = .ok (.goto 4, 3) := by decide +kernel
theorem dX7_rush_48 : decode cX7_rush 48 = .ok (.iconst 0, 1) := by decide +kernel
theorem dX7_rush_49 : decode cX7_rush 49 = .ok (.iastore, 1) := by decide +kernel
theorem dX7_rush_50 : decode cX7_rush 50 = .ok (.aload_n 0, 1) := by decide +kernel
theorem dX7_rush_51 : decode cX7_rush 51 = .ok (.iload_n 3, 1) := by decide +kernel
theorem dX7_rush_52 : decode cX7_rush 52 = .ok (.invokevirtual 54, 3) := by decide +kernel
theorem dX7_rush_55 : decode cX7_rush 55 = .ok (.ireturn, 1) := by decide +kernel
theorem dX7_isSetting_0 : decode cX7_isSetting 0 = .ok (.iload_n 0, 1) := by decide +kernel
theorem dX7_isSetting_1 : decode cX7_isSetting 1 = .ok (.tableswitch 53 0 2 #[27, 37, 46], 27) := by decide +kernel
theorem dX7_isSetting_28 : decode cX7_isSetting 28 = .ok (.iload_n 1, 1) := by decide +kernel
theorem dX7_isSetting_29 : decode cX7_isSetting 29 = .ok (.bipush 10, 2) := by decide +kernel
theorem dX7_isSetting_31 : decode cX7_isSetting 31 = .ok (.sipush 300, 3) := by decide +kernel
theorem dX7_isSetting_34 : decode cX7_isSetting 34 = .ok (.invokestatic 29, 3) := by decide +kernel
theorem dX7_isSetting_37 : decode cX7_isSetting 37 = .ok (.ireturn, 1) := by decide +kernel
theorem dX7_isSetting_38 : decode cX7_isSetting 38 = .ok (.iload_n 1, 1) := by decide +kernel
theorem dX7_isSetting_39 : decode cX7_isSetting 39 = .ok (.iconst 1, 1) := by decide +kernel
theorem dX7_isSetting_40 : decode cX7_isSetting 40 = .ok (.sipush 200, 3) := by decide +kernel
theorem dX7_isSetting_43 : decode cX7_isSetting 43 = .ok (.invokestatic 29, 3) := by decide +kernel
theorem dX7_isSetting_46 : decode cX7_isSetting 46 = .ok (.ireturn, 1) := by decide +kernel
theorem dX7_isSetting_47 : decode cX7_isSetting 47 = .ok (.iload_n 1, 1) := by decide +kernel
theorem dX7_isSetting_48 : decode cX7_isSetting 48 = .ok (.iconst 0, 1) := by decide +kernel
theorem dX7_isSetting_49 : decode cX7_isSetting 49 = .ok (.iconst 3, 1) := by decide +kernel
theorem dX7_isSetting_50 : decode cX7_isSetting 50 = .ok (.invokestatic 29, 3) := by decide +kernel
theorem dX7_isSetting_53 : decode cX7_isSetting 53 = .ok (.ireturn, 1) := by decide +kernel
theorem dX7_isSetting_54 : decode cX7_isSetting 54 = .ok (.iload_n 1, 1) := by decide +kernel
theorem dX7_isSetting_55 : decode cX7_isSetting 55 = .ok (.iconst 1, 1) := by decide +kernel
theorem dX7_isSetting_56 : decode cX7_isSetting 56 = .ok (.bipush 30, 2) := by decide +kernel
theorem dX7_isSetting_58 : decode cX7_isSetting 58 = .ok (.invokestatic 29, 3) := by decide +kernel
theorem dX7_isSetting_61 : decode cX7_isSetting 61 = .ok (.ireturn, 1) := by decide +kernel
theorem dX7_set_0 : decode cX7_set 0 = .ok (.aload_n 0, 1) := by decide +kernel
theorem dX7_set_1 : decode cX7_set 1 = .ok (.iconst 0, 1) := by decide +kernel
theorem dX7_set_2 : decode cX7_set 2 = .ok (.putfield 25, 3) := by decide +kernel
theorem dX7_set_5 : decode cX7_set 5 = .ok (.iload_n 1, 1) := by decide +kernel
theorem dX7_set_6 : decode cX7_set 6 = .ok (.iconst 0, 1) := by decide +kernel
theorem dX7_set_7 : decode cX7_set 7 = .ok (.iconst 3, 1) := by decide +kernel
theorem dX7_set_8 : decode cX7_set 8 = .ok (.invokestatic 29, 3) := by decide +kernel
theorem dX7_set_11 : decode cX7_set 11 = .ok (.ifCond .ne 9, 3) := by decide +kernel
theorem dX7_set_14 : decode cX7_set 14 = .ok (.aload_n 0, 1) := by decide +kernel
theorem dX7_set_15 : decode cX7_set 15 = .ok (.iconst 1, 1) := by decide +kernel
theorem dX7_set_16 : decode cX7_set 16 = .ok (.invokevirtual 138, 3) := by decide +kernel
theorem dX7_set_19 : decode cX7_set 19 = .ok (.ireturn, 1) := by decide +kernel
theorem dX7_set_20 : decode cX7_set 20 = .ok (.iload_n 1, 1) := by decide +kernel
theorem dX7_set_21 : decode cX7_set 21 = .ok (.iload_n 2, 1) := by decide +kernel
theorem dX7_set_22 : decode cX7_set 22 = .ok (.invokestatic 151, 3) := by decide +kernel
theorem dX7_set_25 : decode cX7_set 25 = .ok (.ifCond .ne 9, 3) := by decide +kernel
theorem dX7_set_28 : decode cX7_set 28 = .ok (.aload_n 0, 1) := by decide +kernel
theorem dX7_set_29 : decode cX7_set 29 = .ok (.iconst 2, 1) := by decide +kernel
theorem dX7_set_30 : decode cX7_set 30 = .ok (.invokevirtual 138, 3) := by decide +kernel
theorem dX7_set_33 : decode cX7_set 33 = .ok (.ireturn, 1) := by decide +kernel
theorem dX7_set_34 : decode cX7_set 34 = .ok (.aload_n 0, 1) := by decide +kernel
theorem dX7_set_35 : decode cX7_set 35 = .ok (.invokevirtual 141, 3) := by decide +kernel
theorem dX7_set_38 : decode cX7_set 38 = .ok (.aload_n 0, 1) := by decide +kernel
theorem dX7_set_39 : decode cX7_set 39 = .ok (.getfield 7, 3) := by decide +kernel
theorem dX7_set_42 : decode cX7_set 42 = .ok (.iload_n 1, 1) := by decide +kernel
theorem dX7_set_43 : decode cX7_set 43 = .ok (.iaload, 1) := by decide +kernel
theorem dX7_set_44 : decode cX7_set 44 = .ok (.istore_n 3, 1) := by decide +kernel
theorem dX7_set_45 : decode cX7_set 45 = .ok (.aload_n 0, 1) := by decide +kernel
theorem dX7_set_46 : decode cX7_set 46 = .ok (.getfield 7, 3) := by decide +kernel
theorem dX7_set_49 : decode cX7_set 49 = .ok (.iload_n 1, 1) := by decide +kernel
theorem dX7_set_50 : decode cX7_set 50 = .ok (.iload_n 2, 1) := by decide +kernel
theorem dX7_set_51 : decode cX7_set 51 = .ok (.iastore, 1) := by decide +kernel
theorem dX7_set_52 : decode cX7_set 52 = .ok (.iload_n 3, 1) := by decide +kernel
theorem dX7_set_53 : decode cX7_set 53 = .ok (.ireturn, 1) := by decide +kernel
theorem dX7_pass_0 : decode cX7_pass 0 = .ok (.aload_n 0, 1) := by decide +kernel
theorem dX7_pass_1 : decode cX7_pass 1 = .ok (.iconst 0, 1) := by decide +kernel
theorem dX7_pass_2 : decode cX7_pass 2 = .ok (.putfield 25, 3) := by decide +kernel
theorem dX7_pass_5 : decode cX7_pass 5 = .ok (.iload_n 1, 1) := by decide +kernel
theorem dX7_pass_6 : decode cX7_pass 6 = .ok (.iconst 1, 1) := by decide +kernel
theorem dX7_pass_7 : decode cX7_pass 7 = .ok (.bipush 120, 2) := by decide +kernel
theorem dX7_pass_9 : decode cX7_pass 9 = .ok (.invokestatic 29, 3) := by decide +kernel
theorem dX7_pass_12 : decode cX7_pass 12 = .ok (.ifCond .ne 9, 3) := by decide +kernel
theorem dX7_pass_15 : decode cX7_pass 15 = .ok (.aload_n 0, 1) := by decide +kernel
theorem dX7_pass_16 : decode cX7_pass 16 = .ok (.iconst 1, 1) := by decide +kernel
theorem dX7_pass_17 : decode cX7_pass 17 = .ok (.invokevirtual 138, 3) := by decide +kernel
theorem dX7_pass_20 : decode cX7_pass 20 = .ok (.ireturn, 1) := by decide +kernel
theorem dX7_pass_21 : decode cX7_pass 21 = .ok (.aload_n 0, 1) := by decide +kernel
theorem dX7_pass_22 : decode cX7_pass 22 = .ok (.getfield 7, 3) := by decide +kernel
theorem dX7_pass_25 : decode cX7_pass 25 = .ok (.iconst 4, 1) := by decide +kernel
theorem dX7_pass_26 : decode cX7_pass 26 = .ok (.iaload, 1) := by decide +kernel
theorem dX7_pass_27 : decode cX7_pass 27 = .ok (.iload_n 1, 1) := by decide +kernel
theorem dX7_pass_28 : decode cX7_pass 28 = .ok (.iadd, 1) := by decide +kernel
theorem dX7_pass_29 : decode cX7_pass 29 = .ok (.sipush 9999, 3) := by decide +kernel
theorem dX7_pass_32 : decode cX7_pass 32 = .ok (.if_icmp .le 9, 3) := by decide +kernel
theorem dX7_pass_35 : decode cX7_pass 35 = .ok (.aload_n 0, 1) := by decide +kernel
theorem dX7_pass_36 : decode cX7_pass 36 = .ok (.iconst 2, 1) := by decide +kernel
theorem dX7_pass_37 : decode cX7_pass 37 = .ok (.invokevirtual 138, 3) := by decide +kernel
theorem dX7_pass_40 : decode cX7_pass 40 = .ok (.ireturn, 1) := by decide +kernel
theorem dX7_pass_41 : decode cX7_pass 41 = .ok (.aload_n 0, 1) := by decide +kernel
theorem dX7_pass_42 : decode cX7_pass 42 = .ok (.invokevirtual 141, 3) := by decide +kernel
theorem dX7_pass_45 : decode cX7_pass 45 = .ok (.aload_n 0, 1) := by decide +kernel
theorem dX7_pass_46 : decode cX7_pass 46 = .ok (.iload_n 1, 1) := by decide +kernel
theorem dX7_pass_47 : decode cX7_pass 47 = .ok (.invokevirtual 154, 3) := by decide +kernel
theorem dX7_pass_50 : decode cX7_pass 50 = .ok (.ireturn, 1) := by decide +kernel
theorem dX7_append_0 : decode cX7_append 0 = .ok (.aload_n 0, 1) := by decide +kernel
theorem dX7_append_1 : decode cX7_append 1 = .ok (.iconst 0, 1) := by decide +kernel
theorem dX7_append_2 : decode cX7_append 2 = .ok (.putfield 25, 3) := by decide +kernel
theorem dX7_append_5 : decode cX7_append 5 = .ok (.iload_n 1, 1) := by decide +kernel
theorem dX7_append_6 : decode cX7_append 6 = .ok (.bipush 33, 2) := by decide +kernel
theorem dX7_append_8 : decode cX7_append 8 = .ok (.bipush 126, 2) := by decide +kernel
theorem dX7_append_10 : decode cX7_append 10 = .ok (.invokestatic 29, 3) := by decide +kernel
theorem dX7_append_13 : decode cX7_append 13 = .ok (.ifCond .ne 9, 3) := by decide +kernel
theorem dX7_append_16 : decode cX7_append 16 = .ok (.aload_n 0, 1) := by decide +kernel
theorem dX7_append_17 : decode cX7_append 17 = .ok (.iconst 1, 1) := by decide +kernel
theorem dX7_append_18 : decode cX7_append 18 = .ok (.invokevirtual 138, 3) := by decide +kernel
theorem dX7_append_21 : decode cX7_append 21 = .ok (.ireturn, 1) := by decide +kernel
theorem dX7_append_22 : decode cX7_append 22 = .ok (.aload_n 0, 1) := by decide +kernel
theorem dX7_append_23 : decode cX7_append 23 = .ok (.getfield 157, 3) := by decide +kernel
theorem dX7_append_26 : decode cX7_append 26 = .ok (.bipush 60, 2) := by decide +kernel
theorem dX7_append_28 : decode cX7_append 28 = .ok (.if_icmp .ne 9, 3) := by decide +kernel
theorem dX7_append_31 : decode cX7_append 31 = .ok (.aload_n 0, 1) := by decide +kernel
theorem dX7_append_32 : decode cX7_append 32 = .ok (.iconst 2, 1) := by decide +kernel
theorem dX7_append_33 : decode cX7_append 33 = .ok (.invokevirtual 138, 3) := by decide +kernel
theorem dX7_append_36 : decode cX7_append 36 = .ok (.ireturn, 1) := by decide +kernel
theorem dX7_append_37 : decode cX7_append 37 = .ok (.aload_n 0, 1) := by decide +kernel
theorem dX7_append_38 : decode cX7_append 38 = .ok (.getfield 19, 3) := by decide +kernel
theorem dX7_append_41 : decode cX7_append 41 = .ok (.aload_n 0, 1) := by decide +kernel
theorem dX7_append_42 : decode cX7_append 42 = .ok (.getfield 157, 3) := by decide +kernel
theorem dX7_append_45 : decode cX7_append 45 = .ok (.iload_n 1, 1) := by decide +kernel
theorem dX7_append_46 : decode cX7_append 46 = .ok (.iastore, 1) := by decide +kernel
theorem dX7_append_47 : decode cX7_append 47 = .ok (.aload_n 0, 1) := by decide +kernel
theorem dX7_append_48 : decode cX7_append 48 = .ok (.dup, 1) := by decide +kernel
theorem dX7_append_49 : decode cX7_append 49 = .ok (.getfield 157, 3) := by decide +kernel
theorem dX7_append_52 : decode cX7_append 52 = .ok (.iconst 1, 1) := by decide +kernel
theorem dX7_append_53 : decode cX7_append 53 = .ok (.iadd, 1) := by decide +kernel
theorem dX7_append_54 : decode cX7_append 54 = .ok (.putfield 157, 3) := by decide +kernel
theorem dX7_append_57 : decode cX7_append 57 = .ok (.aload_n 0, 1) := by decide +kernel
theorem dX7_append_58 : decode cX7_append 58 = .ok (.getfield 157, 3) := by decide +kernel
theorem dX7_append_61 : decode cX7_append 61 = .ok (.ireturn, 1) := by decide +kernel
theorem dX7_clearBuffer_0 : decode cX7_clearBuffer 0 = .ok (.aload_n 0, 1) := by decide +kernel
theorem dX7_clearBuffer_1 : decode cX7_clearBuffer 1 = .ok (.iconst 0, 1) := by decide +kernel
theorem dX7_clearBuffer_2 : decode cX7_clearBuffer 2 = .ok (.putfield 25, 3) := by decide +kernel
theorem dX7_clearBuffer_5 : decode cX7_clearBuffer 5 = .ok (.aload_n 0, 1) := by decide +kernel
theorem dX7_clearBuffer_6 : decode cX7_clearBuffer 6 = .ok (.getfield 157, 3) := by decide +kernel
theorem dX7_clearBuffer_9 : decode cX7_clearBuffer 9 = .ok (.istore_n 1, 1) := by decide +kernel
theorem dX7_clearBuffer_10 : decode cX7_clearBuffer 10 = .ok (.aload_n 0, 1) := by decide +kernel
theorem dX7_clearBuffer_11 : decode cX7_clearBuffer 11 = .ok (.iconst 0, 1) := by decide +kernel
theorem dX7_clearBuffer_12 : decode cX7_clearBuffer 12 = .ok (.putfield 157, 3) := by decide +kernel
theorem dX7_clearBuffer_15 : decode cX7_clearBuffer 15 = .ok (.iload_n 1, 1) := by decide +kernel
theorem dX7_clearBuffer_16 : decode cX7_clearBuffer 16 = .ok (.ireturn, 1) := by decide +kernel
theorem dX7_sign_0 : decode cX7_sign 0 = .ok (.aload_n 0, 1) := by decide +kernel
theorem dX7_sign_1 : decode cX7_sign 1 = .ok (.getfield 160, 3) := by decide +kernel
theorem dX7_sign_4 : decode cX7_sign 4 = .ok (.aload_n 0, 1) := by decide +kernel
theorem dX7_sign_5 : decode cX7_sign 5 = .ok (.getfield 157, 3) := by decide +kernel
theorem dX7_sign_8 : decode cX7_sign 8 = .ok (.if_icmp .ge 15, 3) := by decide +kernel
theorem dX7_sign_11 : decode cX7_sign 11 = .ok (.aload_n 0, 1) := by decide +kernel
theorem dX7_sign_12 : decode cX7_sign 12 = .ok (.getfield 19, 3) := by decide +kernel
theorem dX7_sign_15 : decode cX7_sign 15 = .ok (.aload_n 0, 1) := by decide +kernel
theorem dX7_sign_16 : decode cX7_sign 16 = .ok (.getfield 160, 3) := by decide +kernel
theorem dX7_sign_19 : decode cX7_sign 19 = .ok (.iaload, 1) := by decide +kernel
theorem dX7_sign_20 : decode cX7_sign 20 = .ok (.goto 4, 3) := by decide +kernel
theorem dX7_sign_23 : decode cX7_sign 23 = .ok (.iconst 0, 1) := by decide +kernel
theorem dX7_sign_24 : decode cX7_sign 24 = .ok (.ireturn, 1) := by decide +kernel
theorem dX7_takesSign_0 : decode cX7_takesSign 0 = .ok (.aload_n 0, 1) := by decide +kernel
theorem dX7_takesSign_1 : decode cX7_takesSign 1 = .ok (.getfield 163, 3) := by decide +kernel
theorem dX7_takesSign_4 : decode cX7_takesSign 4 = .ok (.ifCond .eq 15, 3) := by decide +kernel
theorem dX7_takesSign_7 : decode cX7_takesSign 7 = .ok (.aload_n 0, 1) := by decide +kernel
theorem dX7_takesSign_8 : decode cX7_takesSign 8 = .ok (.invokevirtual 167, 3) := by decide +kernel
theorem dX7_takesSign_11 : decode cX7_takesSign 11 = .ok (.iload_n 1, 1) := by decide +kernel
theorem dX7_takesSign_12 : decode cX7_takesSign 12 = .ok (.if_icmp .ne 7, 3) := by decide +kernel
theorem dX7_takesSign_15 : decode cX7_takesSign 15 = .ok (.iconst 1, 1) := by decide +kernel
theorem dX7_takesSign_16 : decode cX7_takesSign 16 = .ok (.goto 4, 3) := by decide +kernel
theorem dX7_takesSign_19 : decode cX7_takesSign 19 = .ok (.iconst 0, 1) := by decide +kernel
theorem dX7_takesSign_20 : decode cX7_takesSign 20 = .ok (.istore_n 2, 1) := by decide +kernel
theorem dX7_takesSign_21 : decode cX7_takesSign 21 = .ok (.aload_n 0, 1) := by decide +kernel
theorem dX7_takesSign_22 : decode cX7_takesSign 22 = .ok (.dup, 1) := by decide +kernel
theorem dX7_takesSign_23 : decode cX7_takesSign 23 = .ok (.getfield 160, 3) := by decide +kernel
theorem dX7_takesSign_26 : decode cX7_takesSign 26 = .ok (.iload_n 2, 1) := by decide +kernel
theorem dX7_takesSign_27 : decode cX7_takesSign 27 = .ok (.ifCond .eq 7, 3) := by decide +kernel
theorem dX7_takesSign_30 : decode cX7_takesSign 30 = .ok (.iconst 1, 1) := by decide +kernel
theorem dX7_takesSign_31 : decode cX7_takesSign 31 = .ok (.goto 4, 3) := by decide +kernel
theorem dX7_takesSign_34 : decode cX7_takesSign 34 = .ok (.iconst 0, 1) := by decide +kernel
theorem dX7_takesSign_35 : decode cX7_takesSign 35 = .ok (.iadd, 1) := by decide +kernel
theorem dX7_takesSign_36 : decode cX7_takesSign 36 = .ok (.putfield 160, 3) := by decide +kernel
theorem dX7_takesSign_39 : decode cX7_takesSign 39 = .ok (.iload_n 2, 1) := by decide +kernel
theorem dX7_takesSign_40 : decode cX7_takesSign 40 = .ok (.ireturn, 1) := by decide +kernel
theorem dX7_number_0 : decode cX7_number 0 = .ok (.aload_n 0, 1) := by decide +kernel
theorem dX7_number_1 : decode cX7_number 1 = .ok (.aload_n 0, 1) := by decide +kernel
theorem dX7_number_2 : decode cX7_number 2 = .ok (.getfield 163, 3) := by decide +kernel
theorem dX7_number_5 : decode cX7_number 5 = .ok (.ifCond .eq 36, 3) := by decide +kernel
theorem dX7_number_8 : decode cX7_number 8 = .ok (.aload_n 0, 1) := by decide +kernel
theorem dX7_number_9 : decode cX7_number 9 = .ok (.invokevirtual 167, 3) := by decide +kernel
theorem dX7_number_12 : decode cX7_number 12 = .ok (.bipush 48, 2) := by decide +kernel
theorem dX7_number_14 : decode cX7_number 14 = .ok (.iload_n 1, 1) := by decide +kernel
theorem dX7_number_15 : decode cX7_number 15 = .ok (.iadd, 1) := by decide +kernel
theorem dX7_number_16 : decode cX7_number 16 = .ok (.iload_n 2, 1) := by decide +kernel
theorem dX7_number_17 : decode cX7_number 17 = .ok (.bipush 9, 2) := by decide +kernel
theorem dX7_number_19 : decode cX7_number 19 = .ok (.if_icmp .ge 10, 3) := by decide +kernel
theorem dX7_number_22 : decode cX7_number 22 = .ok (.bipush 48, 2) := by decide +kernel
theorem dX7_number_24 : decode cX7_number 24 = .ok (.iload_n 2, 1) := by decide +kernel
theorem dX7_number_25 : decode cX7_number 25 = .ok (.iadd, 1) := by decide +kernel
theorem dX7_number_26 : decode cX7_number 26 = .ok (.goto 5, 3) := by decide +kernel
theorem dX7_number_29 : decode cX7_number 29 = .ok (.bipush 57, 2) := by decide +kernel
theorem dX7_number_31 : decode cX7_number 31 = .ok (.invokestatic 29, 3) := by decide +kernel
theorem dX7_number_34 : decode cX7_number 34 = .ok (.ifCond .eq 7, 3) := by decide +kernel
theorem dX7_number_37 : decode cX7_number 37 = .ok (.iconst 1, 1) := by decide +kernel
theorem dX7_number_38 : decode cX7_number 38 = .ok (.goto 4, 3) := by decide +kernel
theorem dX7_number_41 : decode cX7_number 41 = .ok (.iconst 0, 1) := by decide +kernel
theorem dX7_number_42 : decode cX7_number 42 = .ok (.putfield 163, 3) := by decide +kernel
theorem dX7_number_45 : decode cX7_number 45 = .ok (.aload_n 0, 1) := by decide +kernel
theorem dX7_number_46 : decode cX7_number 46 = .ok (.invokevirtual 167, 3) := by decide +kernel
theorem dX7_number_49 : decode cX7_number 49 = .ok (.bipush 48, 2) := by decide +kernel
theorem dX7_number_51 : decode cX7_number 51 = .ok (.isub, 1) := by decide +kernel
theorem dX7_number_52 : decode cX7_number 52 = .ok (.istore_n 3, 1) := by decide +kernel
theorem dX7_number_53 : decode cX7_number 53 = .ok (.aload_n 0, 1) := by decide +kernel
theorem dX7_number_54 : decode cX7_number 54 = .ok (.dup, 1) := by decide +kernel
theorem dX7_number_55 : decode cX7_number 55 = .ok (.getfield 160, 3) := by decide +kernel
theorem dX7_number_58 : decode cX7_number 58 = .ok (.aload_n 0, 1) := by decide +kernel
theorem dX7_number_59 : decode cX7_number 59 = .ok (.getfield 163, 3) := by decide +kernel
theorem dX7_number_62 : decode cX7_number 62 = .ok (.ifCond .eq 7, 3) := by decide +kernel
theorem dX7_number_65 : decode cX7_number 65 = .ok (.iconst 1, 1) := by decide +kernel
theorem dX7_number_66 : decode cX7_number 66 = .ok (.goto 4, 3) := by decide +kernel
theorem dX7_number_69 : decode cX7_number 69 = .ok (.iconst 0, 1) := by decide +kernel
theorem dX7_number_70 : decode cX7_number 70 = .ok (.iadd, 1) := by decide +kernel
theorem dX7_number_71 : decode cX7_number 71 = .ok (.putfield 160, 3) := by decide +kernel
theorem dX7_number_74 : decode cX7_number 74 = .ok (.aload_n 0, 1) := by decide +kernel
theorem dX7_number_75 : decode cX7_number 75 = .ok (.getfield 163, 3) := by decide +kernel
theorem dX7_number_78 : decode cX7_number 78 = .ok (.ifCond .eq 63, 3) := by decide +kernel
theorem dX7_number_81 : decode cX7_number 81 = .ok (.iload_n 3, 1) := by decide +kernel
theorem dX7_number_82 : decode cX7_number 82 = .ok (.ifCond .le 59, 3) := by decide +kernel
theorem dX7_number_85 : decode cX7_number 85 = .ok (.aload_n 0, 1) := by decide +kernel
theorem dX7_number_86 : decode cX7_number 86 = .ok (.invokevirtual 167, 3) := by decide +kernel
theorem dX7_number_89 : decode cX7_number 89 = .ok (.bipush 48, 2) := by decide +kernel
theorem dX7_number_91 : decode cX7_number 91 = .ok (.bipush 57, 2) := by decide +kernel
theorem dX7_number_93 : decode cX7_number 93 = .ok (.invokestatic 29, 3) := by decide +kernel
theorem dX7_number_96 : decode cX7_number 96 = .ok (.ifCond .eq 45, 3) := by decide +kernel
theorem dX7_number_99 : decode cX7_number 99 = .ok (.bipush 10, 2) := by decide +kernel
theorem dX7_number_101 : decode cX7_number 101 = .ok (.iload_n 3, 1) := by decide +kernel
theorem dX7_number_102 : decode cX7_number 102 = .ok (.imul, 1) := by decide +kernel
theorem dX7_number_103 : decode cX7_number 103 = .ok (.aload_n 0, 1) := by decide +kernel
theorem dX7_number_104 : decode cX7_number 104 = .ok (.invokevirtual 167, 3) := by decide +kernel
theorem dX7_number_107 : decode cX7_number 107 = .ok (.iadd, 1) := by decide +kernel
theorem dX7_number_108 : decode cX7_number 108 = .ok (.bipush 48, 2) := by decide +kernel
theorem dX7_number_110 : decode cX7_number 110 = .ok (.isub, 1) := by decide +kernel
theorem dX7_number_111 : decode cX7_number 111 = .ok (.iload_n 2, 1) := by decide +kernel
theorem dX7_number_112 : decode cX7_number 112 = .ok (.if_icmp .gt 29, 3) := by decide +kernel
theorem dX7_number_115 : decode cX7_number 115 = .ok (.bipush 10, 2) := by decide +kernel
theorem dX7_number_117 : decode cX7_number 117 = .ok (.iload_n 3, 1) := by decide +kernel
theorem dX7_number_118 : decode cX7_number 118 = .ok (.imul, 1) := by decide +kernel
theorem dX7_number_119 : decode cX7_number 119 = .ok (.aload_n 0, 1) := by decide +kernel
theorem dX7_number_120 : decode cX7_number 120 = .ok (.invokevirtual 167, 3) := by decide +kernel
theorem dX7_number_123 : decode cX7_number 123 = .ok (.iadd, 1) := by decide +kernel
theorem dX7_number_124 : decode cX7_number 124 = .ok (.bipush 48, 2) := by decide +kernel
theorem dX7_number_126 : decode cX7_number 126 = .ok (.isub, 1) := by decide +kernel
theorem dX7_number_127 : decode cX7_number 127 = .ok (.istore_n 3, 1) := by decide +kernel
theorem dX7_number_128 : decode cX7_number 128 = .ok (.aload_n 0, 1) := by decide +kernel
theorem dX7_number_129 : decode cX7_number 129 = .ok (.dup, 1) := by decide +kernel
theorem dX7_number_130 : decode cX7_number 130 = .ok (.getfield 160, 3) := by decide +kernel
theorem dX7_number_133 : decode cX7_number 133 = .ok (.iconst 1, 1) := by decide +kernel
theorem dX7_number_134 : decode cX7_number 134 = .ok (.iadd, 1) := by decide +kernel
theorem dX7_number_135 : decode cX7_number 135 = .ok (.putfield 160, 3) := by decide +kernel
theorem dX7_number_138 : decode cX7_number 138 = .ok (.goto (-64), 3) := by decide +kernel
theorem dX7_number_141 : decode cX7_number 141 = .ok (.iload_n 3, 1) := by decide +kernel
theorem dX7_number_142 : decode cX7_number 142 = .ok (.ireturn, 1) := by decide +kernel
theorem dX7_readsPart_0 : decode cX7_readsPart 0 = .ok (.aload_n 0, 1) := by decide +kernel
theorem dX7_readsPart_1 : decode cX7_readsPart 1 = .ok (.iconst 1, 1) := by decide +kernel
theorem dX7_readsPart_2 : decode cX7_readsPart 2 = .ok (.bipush 40, 2) := by decide +kernel
theorem dX7_readsPart_4 : decode cX7_readsPart 4 = .ok (.invokevirtual 170, 3) := by decide +kernel
theorem dX7_readsPart_7 : decode cX7_readsPart 7 = .ok (.istore_n 1, 1) := by decide +kernel
theorem dX7_readsPart_8 : decode cX7_readsPart 8 = .ok (.aload_n 0, 1) := by decide +kernel
theorem dX7_readsPart_9 : decode cX7_readsPart 9 = .ok (.aload_n 0, 1) := by decide +kernel
theorem dX7_readsPart_10 : decode cX7_readsPart 10 = .ok (.bipush 100, 2) := by decide +kernel
theorem dX7_readsPart_12 : decode cX7_readsPart 12 = .ok (.invokevirtual 173, 3) := by decide +kernel
theorem dX7_readsPart_15 : decode cX7_readsPart 15 = .ok (.putfield 163, 3) := by decide +kernel
theorem dX7_readsPart_18 : decode cX7_readsPart 18 = .ok (.aload_n 0, 1) := by decide +kernel
theorem dX7_readsPart_19 : decode cX7_readsPart 19 = .ok (.iconst 0, 1) := by decide +kernel
theorem dX7_readsPart_20 : decode cX7_readsPart 20 = .ok (.iconst 4, 1) := by decide +kernel
theorem dX7_readsPart_21 : decode cX7_readsPart 21 = .ok (.invokevirtual 170, 3) := by decide +kernel
theorem dX7_readsPart_24 : decode cX7_readsPart 24 = .ok (.istore_n 2, 1) := by decide +kernel
theorem dX7_readsPart_25 : decode cX7_readsPart 25 = .ok (.aload_n 0, 1) := by decide +kernel
theorem dX7_readsPart_26 : decode cX7_readsPart 26 = .ok (.aload_n 0, 1) := by decide +kernel
theorem dX7_readsPart_27 : decode cX7_readsPart 27 = .ok (.bipush 104, 2) := by decide +kernel
theorem dX7_readsPart_29 : decode cX7_readsPart 29 = .ok (.invokevirtual 173, 3) := by decide +kernel
theorem dX7_readsPart_32 : decode cX7_readsPart 32 = .ok (.putfield 163, 3) := by decide +kernel
theorem dX7_readsPart_35 : decode cX7_readsPart 35 = .ok (.aload_n 0, 1) := by decide +kernel
theorem dX7_readsPart_36 : decode cX7_readsPart 36 = .ok (.iconst 0, 1) := by decide +kernel
theorem dX7_readsPart_37 : decode cX7_readsPart 37 = .ok (.iconst 3, 1) := by decide +kernel
theorem dX7_readsPart_38 : decode cX7_readsPart 38 = .ok (.invokevirtual 170, 3) := by decide +kernel
theorem dX7_readsPart_41 : decode cX7_readsPart 41 = .ok (.istore_n 3, 1) := by decide +kernel
theorem dX7_readsPart_42 : decode cX7_readsPart 42 = .ok (.aload_n 0, 1) := by decide +kernel
theorem dX7_readsPart_43 : decode cX7_readsPart 43 = .ok (.bipush 64, 2) := by decide +kernel
theorem dX7_readsPart_45 : decode cX7_readsPart 45 = .ok (.invokevirtual 173, 3) := by decide +kernel
theorem dX7_readsPart_48 : decode cX7_readsPart 48 = .ok (.ifCond .eq 14, 3) := by decide +kernel
theorem dX7_readsPart_51 : decode cX7_readsPart 51 = .ok (.aload_n 0, 1) := by decide +kernel
theorem dX7_readsPart_52 : decode cX7_readsPart 52 = .ok (.iconst 0, 1) := by decide +kernel
theorem dX7_readsPart_53 : decode cX7_readsPart 53 = .ok (.sipush 9999, 3) := by decide +kernel
theorem dX7_readsPart_56 : decode cX7_readsPart 56 = .ok (.invokevirtual 170, 3) := by decide +kernel
theorem dX7_readsPart_59 : decode cX7_readsPart 59 = .ok (.goto 6, 3) := by decide +kernel
theorem dX7_readsPart_62 : decode cX7_readsPart 62 = .ok (.sipush 9999, 3) := by decide +kernel
theorem dX7_readsPart_65 : decode cX7_readsPart 65 = .ok (.istore 4, 2) := by decide +kernel
theorem dX7_readsPart_67 : decode cX7_readsPart 67 = .ok (.aload_n 0, 1) := by decide +kernel
theorem dX7_readsPart_68 : decode cX7_readsPart 68 = .ok (.bipush 33, 2) := by decide +kernel
theorem dX7_readsPart_70 : decode cX7_readsPart 70 = .ok (.invokevirtual 173, 3) := by decide +kernel
theorem dX7_readsPart_73 : decode cX7_readsPart 73 = .ok (.ifCond .eq 7, 3) := by decide +kernel
theorem dX7_readsPart_76 : decode cX7_readsPart 76 = .ok (.iconst 1, 1) := by decide +kernel
theorem dX7_readsPart_77 : decode cX7_readsPart 77 = .ok (.goto 4, 3) := by decide +kernel
theorem dX7_readsPart_80 : decode cX7_readsPart 80 = .ok (.iconst 0, 1) := by decide +kernel
theorem dX7_readsPart_81 : decode cX7_readsPart 81 = .ok (.istore 5, 2) := by decide +kernel
theorem dX7_readsPart_83 : decode cX7_readsPart 83 = .ok (.aload_n 0, 1) := by decide +kernel
theorem dX7_readsPart_84 : decode cX7_readsPart 84 = .ok (.getfield 163, 3) := by decide +kernel
theorem dX7_readsPart_87 : decode cX7_readsPart 87 = .ok (.ifCond .eq 83, 3) := by decide +kernel
theorem dX7_readsPart_90 : decode cX7_readsPart 90 = .ok (.aload_n 0, 1) := by decide +kernel
theorem dX7_readsPart_91 : decode cX7_readsPart 91 = .ok (.getfield 22, 3) := by decide +kernel
theorem dX7_readsPart_94 : decode cX7_readsPart 94 = .ok (.iconst 5, 1) := by decide +kernel
theorem dX7_readsPart_95 : decode cX7_readsPart 95 = .ok (.aload_n 0, 1) := by decide +kernel
theorem dX7_readsPart_96 : decode cX7_readsPart 96 = .ok (.getfield 176, 3) := by decide +kernel
theorem dX7_readsPart_99 : decode cX7_readsPart 99 = .ok (.imul, 1) := by decide +kernel
theorem dX7_readsPart_100 : decode cX7_readsPart 100 = .ok (.iload_n 2, 1) := by decide +kernel
theorem dX7_readsPart_101 : decode cX7_readsPart 101 = .ok (.iastore, 1) := by decide +kernel
theorem dX7_readsPart_102 : decode cX7_readsPart 102 = .ok (.aload_n 0, 1) := by decide +kernel
theorem dX7_readsPart_103 : decode cX7_readsPart 103 = .ok (.getfield 22, 3) := by decide +kernel
theorem dX7_readsPart_106 : decode cX7_readsPart 106 = .ok (.iconst 5, 1) := by decide +kernel
theorem dX7_readsPart_107 : decode cX7_readsPart 107 = .ok (.aload_n 0, 1) := by decide +kernel
theorem dX7_readsPart_108 : decode cX7_readsPart 108 = .ok (.getfield 176, 3) := by decide +kernel
theorem dX7_readsPart_111 : decode cX7_readsPart 111 = .ok (.imul, 1) := by decide +kernel
theorem dX7_readsPart_112 : decode cX7_readsPart 112 = .ok (.iconst 1, 1) := by decide +kernel
theorem dX7_readsPart_113 : decode cX7_readsPart 113 = .ok (.iadd, 1) := by decide +kernel
theorem dX7_readsPart_114 : decode cX7_readsPart 114 = .ok (.iload_n 3, 1) := by decide +kernel
theorem dX7_readsPart_115 : decode cX7_readsPart 115 = .ok (.iastore, 1) := by decide +kernel
theorem dX7_readsPart_116 : decode cX7_readsPart 116 = .ok (.aload_n 0, 1) := by decide +kernel
theorem dX7_readsPart_117 : decode cX7_readsPart 117 = .ok (.getfield 22, 3) := by decide +kernel
theorem dX7_readsPart_120 : decode cX7_readsPart 120 = .ok (.iconst 5, 1) := by decide +kernel
theorem dX7_readsPart_121 : decode cX7_readsPart 121 = .ok (.aload_n 0, 1) := by decide +kernel
theorem dX7_readsPart_122 : decode cX7_readsPart 122 = .ok (.getfield 176, 3) := by decide +kernel
theorem dX7_readsPart_125 : decode cX7_readsPart 125 = .ok (.imul, 1) := by decide +kernel
theorem dX7_readsPart_126 : decode cX7_readsPart 126 = .ok (.iconst 2, 1) := by decide +kernel
theorem dX7_readsPart_127 : decode cX7_readsPart 127 = .ok (.iadd, 1) := by decide +kernel
theorem dX7_readsPart_128 : decode cX7_readsPart 128 = .ok (.iload_n 1, 1) := by decide +kernel
theorem dX7_readsPart_129 : decode cX7_readsPart 129 = .ok (.iastore, 1) := by decide +kernel
theorem dX7_readsPart_130 : decode cX7_readsPart 130 = .ok (.aload_n 0, 1) := by decide +kernel
theorem dX7_readsPart_131 : decode cX7_readsPart 131 = .ok (.getfield 22, 3) := by decide +kernel
theorem dX7_readsPart_134 : decode cX7_readsPart 134 = .ok (.iconst 5, 1) := by decide +kernel
theorem dX7_readsPart_135 : decode cX7_readsPart 135 = .ok (.aload_n 0, 1) := by decide +kernel
theorem dX7_readsPart_136 : decode cX7_readsPart 136 = .ok (.getfield 176, 3) := by decide +kernel
theorem dX7_readsPart_139 : decode cX7_readsPart 139 = .ok (.imul, 1) := by decide +kernel
theorem dX7_readsPart_140 : decode cX7_readsPart 140 = .ok (.iconst 3, 1) := by decide +kernel
theorem dX7_readsPart_141 : decode cX7_readsPart 141 = .ok (.iadd, 1) := by decide +kernel
theorem dX7_readsPart_142 : decode cX7_readsPart 142 = .ok (.iload 4, 2) := by decide +kernel
theorem dX7_readsPart_144 : decode cX7_readsPart 144 = .ok (.iastore, 1) := by decide +kernel
theorem dX7_readsPart_145 : decode cX7_readsPart 145 = .ok (.aload_n 0, 1) := by decide +kernel
theorem dX7_readsPart_146 : decode cX7_readsPart 146 = .ok (.getfield 22, 3) := by decide +kernel
theorem dX7_readsPart_149 : decode cX7_readsPart 149 = .ok (.iconst 5, 1) := by decide +kernel
theorem dX7_readsPart_150 : decode cX7_readsPart 150 = .ok (.aload_n 0, 1) := by decide +kernel
theorem dX7_readsPart_151 : decode cX7_readsPart 151 = .ok (.getfield 176, 3) := by decide +kernel
theorem dX7_readsPart_154 : decode cX7_readsPart 154 = .ok (.imul, 1) := by decide +kernel
theorem dX7_readsPart_155 : decode cX7_readsPart 155 = .ok (.iconst 4, 1) := by decide +kernel
theorem dX7_readsPart_156 : decode cX7_readsPart 156 = .ok (.iadd, 1) := by decide +kernel
theorem dX7_readsPart_157 : decode cX7_readsPart 157 = .ok (.iload 5, 2) := by decide +kernel
theorem dX7_readsPart_159 : decode cX7_readsPart 159 = .ok (.iastore, 1) := by decide +kernel
theorem dX7_readsPart_160 : decode cX7_readsPart 160 = .ok (.aload_n 0, 1) := by decide +kernel
theorem dX7_readsPart_161 : decode cX7_readsPart 161 = .ok (.dup, 1) := by decide +kernel
theorem dX7_readsPart_162 : decode cX7_readsPart 162 = .ok (.getfield 176, 3) := by decide +kernel
theorem dX7_readsPart_165 : decode cX7_readsPart 165 = .ok (.iconst 1, 1) := by decide +kernel
theorem dX7_readsPart_166 : decode cX7_readsPart 166 = .ok (.iadd, 1) := by decide +kernel
theorem dX7_readsPart_167 : decode cX7_readsPart 167 = .ok (.putfield 176, 3) := by decide +kernel
theorem dX7_readsPart_170 : decode cX7_readsPart 170 = .ok (.return_, 1) := by decide +kernel
theorem dX7_readsAll_0 : decode cX7_readsAll 0 = .ok (.aload_n 0, 1) := by decide +kernel
theorem dX7_readsAll_1 : decode cX7_readsAll 1 = .ok (.iconst 0, 1) := by decide +kernel
theorem dX7_readsAll_2 : decode cX7_readsAll 2 = .ok (.putfield 160, 3) := by decide +kernel
theorem dX7_readsAll_5 : decode cX7_readsAll 5 = .ok (.aload_n 0, 1) := by decide +kernel
theorem dX7_readsAll_6 : decode cX7_readsAll 6 = .ok (.iconst 1, 1) := by decide +kernel
theorem dX7_readsAll_7 : decode cX7_readsAll 7 = .ok (.putfield 163, 3) := by decide +kernel
theorem dX7_readsAll_10 : decode cX7_readsAll 10 = .ok (.aload_n 0, 1) := by decide +kernel
theorem dX7_readsAll_11 : decode cX7_readsAll 11 = .ok (.iconst 0, 1) := by decide +kernel
theorem dX7_readsAll_12 : decode cX7_readsAll 12 = .ok (.putfield 176, 3) := by decide +kernel
theorem dX7_readsAll_15 : decode cX7_readsAll 15 = .ok (.aload_n 0, 1) := by decide +kernel
theorem dX7_readsAll_16 : decode cX7_readsAll 16 = .ok (.invokevirtual 179, 3) := by decide +kernel
theorem dX7_readsAll_19 : decode cX7_readsAll 19 = .ok (.aload_n 0, 1) := by decide +kernel
theorem dX7_readsAll_20 : decode cX7_readsAll 20 = .ok (.getfield 163, 3) := by decide +kernel
theorem dX7_readsAll_23 : decode cX7_readsAll 23 = .ok (.ifCond .eq 38, 3) := by decide +kernel
theorem dX7_readsAll_26 : decode cX7_readsAll 26 = .ok (.aload_n 0, 1) := by decide +kernel
theorem dX7_readsAll_27 : decode cX7_readsAll 27 = .ok (.getfield 160, 3) := by decide +kernel
theorem dX7_readsAll_30 : decode cX7_readsAll 30 = .ok (.aload_n 0, 1) := by decide +kernel
theorem dX7_readsAll_31 : decode cX7_readsAll 31 = .ok (.getfield 157, 3) := by decide +kernel
theorem dX7_readsAll_34 : decode cX7_readsAll 34 = .ok (.if_icmp .ge 27, 3) := by decide +kernel
theorem dX7_readsAll_37 : decode cX7_readsAll 37 = .ok (.aload_n 0, 1) := by decide +kernel
theorem dX7_readsAll_38 : decode cX7_readsAll 38 = .ok (.aload_n 0, 1) := by decide +kernel
theorem dX7_readsAll_39 : decode cX7_readsAll 39 = .ok (.bipush 59, 2) := by decide +kernel
theorem dX7_readsAll_41 : decode cX7_readsAll 41 = .ok (.invokevirtual 173, 3) := by decide +kernel
theorem dX7_readsAll_44 : decode cX7_readsAll 44 = .ok (.putfield 163, 3) := by decide +kernel
theorem dX7_readsAll_47 : decode cX7_readsAll 47 = .ok (.aload_n 0, 1) := by decide +kernel
theorem dX7_readsAll_48 : decode cX7_readsAll 48 = .ok (.getfield 163, 3) := by decide +kernel
theorem dX7_readsAll_51 : decode cX7_readsAll 51 = .ok (.ifCond .eq (-32), 3) := by decide +kernel
theorem dX7_readsAll_54 : decode cX7_readsAll 54 = .ok (.aload_n 0, 1) := by decide +kernel
theorem dX7_readsAll_55 : decode cX7_readsAll 55 = .ok (.invokevirtual 179, 3) := by decide +kernel
theorem dX7_readsAll_58 : decode cX7_readsAll 58 = .ok (.goto (-39), 3) := by decide +kernel
theorem dX7_readsAll_61 : decode cX7_readsAll 61 = .ok (.return_, 1) := by decide +kernel
theorem dX7_firstError_0 : decode cX7_firstError 0 = .ok (.aload_n 0, 1) := by decide +kernel
theorem dX7_firstError_1 : decode cX7_firstError 1 = .ok (.iconst 0, 1) := by decide +kernel
theorem dX7_firstError_2 : decode cX7_firstError 2 = .ok (.putfield 25, 3) := by decide +kernel
theorem dX7_firstError_5 : decode cX7_firstError 5 = .ok (.aload_n 0, 1) := by decide +kernel
theorem dX7_firstError_6 : decode cX7_firstError 6 = .ok (.invokevirtual 182, 3) := by decide +kernel
theorem dX7_firstError_9 : decode cX7_firstError 9 = .ok (.aload_n 0, 1) := by decide +kernel
theorem dX7_firstError_10 : decode cX7_firstError 10 = .ok (.getfield 160, 3) := by decide +kernel
theorem dX7_firstError_13 : decode cX7_firstError 13 = .ok (.ireturn, 1) := by decide +kernel
theorem dX7_addAll_0 : decode cX7_addAll 0 = .ok (.aload_n 0, 1) := by decide +kernel
theorem dX7_addAll_1 : decode cX7_addAll 1 = .ok (.iconst 0, 1) := by decide +kernel
theorem dX7_addAll_2 : decode cX7_addAll 2 = .ok (.putfield 25, 3) := by decide +kernel
theorem dX7_addAll_5 : decode cX7_addAll 5 = .ok (.aload_n 0, 1) := by decide +kernel
theorem dX7_addAll_6 : decode cX7_addAll 6 = .ok (.invokevirtual 182, 3) := by decide +kernel
theorem dX7_addAll_9 : decode cX7_addAll 9 = .ok (.aload_n 0, 1) := by decide +kernel
theorem dX7_addAll_10 : decode cX7_addAll 10 = .ok (.getfield 163, 3) := by decide +kernel
theorem dX7_addAll_13 : decode cX7_addAll 13 = .ok (.ifCond .ne 9, 3) := by decide +kernel
theorem dX7_addAll_16 : decode cX7_addAll 16 = .ok (.aload_n 0, 1) := by decide +kernel
theorem dX7_addAll_17 : decode cX7_addAll 17 = .ok (.iconst 1, 1) := by decide +kernel
theorem dX7_addAll_18 : decode cX7_addAll 18 = .ok (.invokevirtual 138, 3) := by decide +kernel
theorem dX7_addAll_21 : decode cX7_addAll 21 = .ok (.ireturn, 1) := by decide +kernel
theorem dX7_addAll_22 : decode cX7_addAll 22 = .ok (.aload_n 0, 1) := by decide +kernel
theorem dX7_addAll_23 : decode cX7_addAll 23 = .ok (.getfield 7, 3) := by decide +kernel
theorem dX7_addAll_26 : decode cX7_addAll 26 = .ok (.iconst 5, 1) := by decide +kernel
theorem dX7_addAll_27 : decode cX7_addAll 27 = .ok (.iaload, 1) := by decide +kernel
theorem dX7_addAll_28 : decode cX7_addAll 28 = .ok (.aload_n 0, 1) := by decide +kernel
theorem dX7_addAll_29 : decode cX7_addAll 29 = .ok (.getfield 176, 3) := by decide +kernel
theorem dX7_addAll_32 : decode cX7_addAll 32 = .ok (.iadd, 1) := by decide +kernel
theorem dX7_addAll_33 : decode cX7_addAll 33 = .ok (.bipush 10, 2) := by decide +kernel
theorem dX7_addAll_35 : decode cX7_addAll 35 = .ok (.if_icmp .le 9, 3) := by decide +kernel
theorem dX7_addAll_38 : decode cX7_addAll 38 = .ok (.aload_n 0, 1) := by decide +kernel
theorem dX7_addAll_39 : decode cX7_addAll 39 = .ok (.iconst 2, 1) := by decide +kernel
theorem dX7_addAll_40 : decode cX7_addAll 40 = .ok (.invokevirtual 138, 3) := by decide +kernel
theorem dX7_addAll_43 : decode cX7_addAll 43 = .ok (.ireturn, 1) := by decide +kernel
theorem dX7_addAll_44 : decode cX7_addAll 44 = .ok (.aload_n 0, 1) := by decide +kernel
theorem dX7_addAll_45 : decode cX7_addAll 45 = .ok (.invokevirtual 141, 3) := by decide +kernel
theorem dX7_addAll_48 : decode cX7_addAll 48 = .ok (.aload_n 0, 1) := by decide +kernel
theorem dX7_addAll_49 : decode cX7_addAll 49 = .ok (.iconst 0, 1) := by decide +kernel
theorem dX7_addAll_50 : decode cX7_addAll 50 = .ok (.putfield 157, 3) := by decide +kernel
theorem dX7_addAll_53 : decode cX7_addAll 53 = .ok (.iconst 0, 1) := by decide +kernel
theorem dX7_addAll_54 : decode cX7_addAll 54 = .ok (.istore_n 1, 1) := by decide +kernel
theorem dX7_addAll_55 : decode cX7_addAll 55 = .ok (.iload_n 1, 1) := by decide +kernel
theorem dX7_addAll_56 : decode cX7_addAll 56 = .ok (.iconst 5, 1) := by decide +kernel
theorem dX7_addAll_57 : decode cX7_addAll 57 = .ok (.aload_n 0, 1) := by decide +kernel
theorem dX7_addAll_58 : decode cX7_addAll 58 = .ok (.getfield 176, 3) := by decide +kernel
theorem dX7_addAll_61 : decode cX7_addAll 61 = .ok (.imul, 1) := by decide +kernel
theorem dX7_addAll_62 : decode cX7_addAll 62 = .ok (.if_icmp .ge 51, 3) := by decide +kernel
theorem dX7_addAll_65 : decode cX7_addAll 65 = .ok (.aload_n 0, 1) := by decide +kernel
theorem dX7_addAll_66 : decode cX7_addAll 66 = .ok (.aload_n 0, 1) := by decide +kernel
theorem dX7_addAll_67 : decode cX7_addAll 67 = .ok (.getfield 22, 3) := by decide +kernel
theorem dX7_addAll_70 : decode cX7_addAll 70 = .ok (.iload_n 1, 1) := by decide +kernel
theorem dX7_addAll_71 : decode cX7_addAll 71 = .ok (.iaload, 1) := by decide +kernel
theorem dX7_addAll_72 : decode cX7_addAll 72 = .ok (.aload_n 0, 1) := by decide +kernel
theorem dX7_addAll_73 : decode cX7_addAll 73 = .ok (.getfield 22, 3) := by decide +kernel
theorem dX7_addAll_76 : decode cX7_addAll 76 = .ok (.iload_n 1, 1) := by decide +kernel
theorem dX7_addAll_77 : decode cX7_addAll 77 = .ok (.iconst 1, 1) := by decide +kernel
theorem dX7_addAll_78 : decode cX7_addAll 78 = .ok (.iadd, 1) := by decide +kernel
theorem dX7_addAll_79 : decode cX7_addAll 79 = .ok (.iaload, 1) := by decide +kernel
theorem dX7_addAll_80 : decode cX7_addAll 80 = .ok (.aload_n 0, 1) := by decide +kernel
theorem dX7_addAll_81 : decode cX7_addAll 81 = .ok (.getfield 22, 3) := by decide +kernel
theorem dX7_addAll_84 : decode cX7_addAll 84 = .ok (.iload_n 1, 1) := by decide +kernel
theorem dX7_addAll_85 : decode cX7_addAll 85 = .ok (.iconst 2, 1) := by decide +kernel
theorem dX7_addAll_86 : decode cX7_addAll 86 = .ok (.iadd, 1) := by decide +kernel
theorem dX7_addAll_87 : decode cX7_addAll 87 = .ok (.iaload, 1) := by decide +kernel
theorem dX7_addAll_88 : decode cX7_addAll 88 = .ok (.aload_n 0, 1) := by decide +kernel
theorem dX7_addAll_89 : decode cX7_addAll 89 = .ok (.getfield 22, 3) := by decide +kernel
theorem dX7_addAll_92 : decode cX7_addAll 92 = .ok (.iload_n 1, 1) := by decide +kernel
theorem dX7_addAll_93 : decode cX7_addAll 93 = .ok (.iconst 3, 1) := by decide +kernel
theorem dX7_addAll_94 : decode cX7_addAll 94 = .ok (.iadd, 1) := by decide +kernel
theorem dX7_addAll_95 : decode cX7_addAll 95 = .ok (.iaload, 1) := by decide +kernel
theorem dX7_addAll_96 : decode cX7_addAll 96 = .ok (.aload_n 0, 1) := by decide +kernel
theorem dX7_addAll_97 : decode cX7_addAll 97 = .ok (.getfield 22, 3) := by decide +kernel
theorem dX7_addAll_100 : decode cX7_addAll 100 = .ok (.iload_n 1, 1) := by decide +kernel
theorem dX7_addAll_101 : decode cX7_addAll 101 = .ok (.iconst 4, 1) := by decide +kernel
theorem dX7_addAll_102 : decode cX7_addAll 102 = .ok (.iadd, 1) := by decide +kernel
theorem dX7_addAll_103 : decode cX7_addAll 103 = .ok (.iaload, 1) := by decide +kernel
theorem dX7_addAll_104 : decode cX7_addAll 104 = .ok (.invokevirtual 147, 3) := by decide +kernel
theorem dX7_addAll_107 : decode cX7_addAll 107 = .ok (.iinc 1 5, 3) := by decide +kernel
theorem dX7_addAll_110 : decode cX7_addAll 110 = .ok (.goto (-55), 3) := by decide +kernel
theorem dX7_addAll_113 : decode cX7_addAll 113 = .ok (.aload_n 0, 1) := by decide +kernel
theorem dX7_addAll_114 : decode cX7_addAll 114 = .ok (.getfield 7, 3) := by decide +kernel
theorem dX7_addAll_117 : decode cX7_addAll 117 = .ok (.iconst 5, 1) := by decide +kernel
theorem dX7_addAll_118 : decode cX7_addAll 118 = .ok (.iaload, 1) := by decide +kernel
theorem dX7_addAll_119 : decode cX7_addAll 119 = .ok (.ireturn, 1) := by decide +kernel
theorem dX7_undo_0 : decode cX7_undo 0 = .ok (.aload_n 0, 1) := by decide +kernel
theorem dX7_undo_1 : decode cX7_undo 1 = .ok (.iconst 0, 1) := by decide +kernel
theorem dX7_undo_2 : decode cX7_undo 2 = .ok (.putfield 25, 3) := by decide +kernel
theorem dX7_undo_5 : decode cX7_undo 5 = .ok (.aload_n 0, 1) := by decide +kernel
theorem dX7_undo_6 : decode cX7_undo 6 = .ok (.getfield 33, 3) := by decide +kernel
theorem dX7_undo_9 : decode cX7_undo 9 = .ok (.ifCond .ne 9, 3) := by decide +kernel
theorem dX7_undo_12 : decode cX7_undo 12 = .ok (.aload_n 0, 1) := by decide +kernel
theorem dX7_undo_13 : decode cX7_undo 13 = .ok (.iconst 1, 1) := by decide +kernel
theorem dX7_undo_14 : decode cX7_undo 14 = .ok (.invokevirtual 138, 3) := by decide +kernel
theorem dX7_undo_17 : decode cX7_undo 17 = .ok (.ireturn, 1) := by decide +kernel
theorem dX7_undo_18 : decode cX7_undo 18 = .ok (.aload_n 0, 1) := by decide +kernel
theorem dX7_undo_19 : decode cX7_undo 19 = .ok (.dup, 1) := by decide +kernel
theorem dX7_undo_20 : decode cX7_undo 20 = .ok (.getfield 33, 3) := by decide +kernel
theorem dX7_undo_23 : decode cX7_undo 23 = .ok (.iconst 1, 1) := by decide +kernel
theorem dX7_undo_24 : decode cX7_undo 24 = .ok (.isub, 1) := by decide +kernel
theorem dX7_undo_25 : decode cX7_undo 25 = .ok (.putfield 33, 3) := by decide +kernel
theorem dX7_undo_28 : decode cX7_undo 28 = .ok (.iconst 0, 1) := by decide +kernel
theorem dX7_undo_29 : decode cX7_undo 29 = .ok (.istore_n 1, 1) := by decide +kernel
theorem dX7_undo_30 : decode cX7_undo 30 = .ok (.iload_n 1, 1) := by decide +kernel
theorem dX7_undo_31 : decode cX7_undo 31 = .ok (.sipush 158, 3) := by decide +kernel
theorem dX7_undo_34 : decode cX7_undo 34 = .ok (.if_icmp .ge 30, 3) := by decide +kernel
theorem dX7_undo_37 : decode cX7_undo 37 = .ok (.aload_n 0, 1) := by decide +kernel
theorem dX7_undo_38 : decode cX7_undo 38 = .ok (.getfield 7, 3) := by decide +kernel
theorem dX7_undo_41 : decode cX7_undo 41 = .ok (.iload_n 1, 1) := by decide +kernel
theorem dX7_undo_42 : decode cX7_undo 42 = .ok (.aload_n 0, 1) := by decide +kernel
theorem dX7_undo_43 : decode cX7_undo 43 = .ok (.getfield 16, 3) := by decide +kernel
theorem dX7_undo_46 : decode cX7_undo 46 = .ok (.sipush 158, 3) := by decide +kernel
theorem dX7_undo_49 : decode cX7_undo 49 = .ok (.aload_n 0, 1) := by decide +kernel
theorem dX7_undo_50 : decode cX7_undo 50 = .ok (.getfield 33, 3) := by decide +kernel
theorem dX7_undo_53 : decode cX7_undo 53 = .ok (.imul, 1) := by decide +kernel
theorem dX7_undo_54 : decode cX7_undo 54 = .ok (.iload_n 1, 1) := by decide +kernel
theorem dX7_undo_55 : decode cX7_undo 55 = .ok (.iadd, 1) := by decide +kernel
theorem dX7_undo_56 : decode cX7_undo 56 = .ok (.iaload, 1) := by decide +kernel
theorem dX7_undo_57 : decode cX7_undo 57 = .ok (.iastore, 1) := by decide +kernel
theorem dX7_undo_58 : decode cX7_undo 58 = .ok (.iinc 1 1, 3) := by decide +kernel
theorem dX7_undo_61 : decode cX7_undo 61 = .ok (.goto (-31), 3) := by decide +kernel
theorem dX7_undo_64 : decode cX7_undo 64 = .ok (.aload_n 0, 1) := by decide +kernel
theorem dX7_undo_65 : decode cX7_undo 65 = .ok (.getfield 33, 3) := by decide +kernel
theorem dX7_undo_68 : decode cX7_undo 68 = .ok (.ireturn, 1) := by decide +kernel
theorem dX7_billetsWith_0 : decode cX7_billetsWith 0 = .ok (.iconst 0, 1) := by decide +kernel
theorem dX7_billetsWith_1 : decode cX7_billetsWith 1 = .ok (.istore_n 2, 1) := by decide +kernel
theorem dX7_billetsWith_2 : decode cX7_billetsWith 2 = .ok (.iconst 0, 1) := by decide +kernel
theorem dX7_billetsWith_3 : decode cX7_billetsWith 3 = .ok (.istore_n 3, 1) := by decide +kernel
theorem dX7_billetsWith_4 : decode cX7_billetsWith 4 = .ok (.iload_n 3, 1) := by decide +kernel
theorem dX7_billetsWith_5 : decode cX7_billetsWith 5 = .ok (.bipush 6, 2) := by decide +kernel
theorem dX7_billetsWith_7 : decode cX7_billetsWith 7 = .ok (.if_icmp .gt 40, 3) := by decide +kernel
theorem dX7_billetsWith_10 : decode cX7_billetsWith 10 = .ok (.iload_n 2, 1) := by decide +kernel
theorem dX7_billetsWith_11 : decode cX7_billetsWith 11 = .ok (.aload_n 0, 1) := by decide +kernel
theorem dX7_billetsWith_12 : decode cX7_billetsWith 12 = .ok (.iload_n 3, 1) := by decide +kernel
theorem dX7_billetsWith_13 : decode cX7_billetsWith 13 = .ok (.invokevirtual 64, 3) := by decide +kernel
theorem dX7_billetsWith_16 : decode cX7_billetsWith 16 = .ok (.iconst (-1), 1) := by decide +kernel
theorem dX7_billetsWith_17 : decode cX7_billetsWith 17 = .ok (.if_icmp .eq 21, 3) := by decide +kernel
theorem dX7_billetsWith_20 : decode cX7_billetsWith 20 = .ok (.aload_n 0, 1) := by decide +kernel
theorem dX7_billetsWith_21 : decode cX7_billetsWith 21 = .ok (.aload_n 0, 1) := by decide +kernel
theorem dX7_billetsWith_22 : decode cX7_billetsWith 22 = .ok (.iload_n 3, 1) := by decide +kernel
theorem dX7_billetsWith_23 : decode cX7_billetsWith 23 = .ok (.invokevirtual 64, 3) := by decide +kernel
theorem dX7_billetsWith_26 : decode cX7_billetsWith 26 = .ok (.iconst 2, 1) := by decide +kernel
theorem dX7_billetsWith_27 : decode cX7_billetsWith 27 = .ok (.invokevirtual 47, 3) := by decide +kernel
theorem dX7_billetsWith_30 : decode cX7_billetsWith 30 = .ok (.iload_n 1, 1) := by decide +kernel
theorem dX7_billetsWith_31 : decode cX7_billetsWith 31 = .ok (.if_icmp .ne 7, 3) := by decide +kernel
theorem dX7_billetsWith_34 : decode cX7_billetsWith 34 = .ok (.iconst 1, 1) := by decide +kernel
theorem dX7_billetsWith_35 : decode cX7_billetsWith 35 = .ok (.goto 4, 3) := by decide +kernel
theorem dX7_billetsWith_38 : decode cX7_billetsWith 38 = .ok (.iconst 0, 1) := by decide +kernel
theorem dX7_billetsWith_39 : decode cX7_billetsWith 39 = .ok (.iadd, 1) := by decide +kernel
theorem dX7_billetsWith_40 : decode cX7_billetsWith 40 = .ok (.istore_n 2, 1) := by decide +kernel
theorem dX7_billetsWith_41 : decode cX7_billetsWith 41 = .ok (.iinc 3 1, 3) := by decide +kernel
theorem dX7_billetsWith_44 : decode cX7_billetsWith 44 = .ok (.goto (-40), 3) := by decide +kernel
theorem dX7_billetsWith_47 : decode cX7_billetsWith 47 = .ok (.iload_n 2, 1) := by decide +kernel
theorem dX7_billetsWith_48 : decode cX7_billetsWith 48 = .ok (.ireturn, 1) := by decide +kernel
theorem dX7_lackedWith_0 : decode cX7_lackedWith 0 = .ok (.iconst 0, 1) := by decide +kernel
theorem dX7_lackedWith_1 : decode cX7_lackedWith 1 = .ok (.istore_n 2, 1) := by decide +kernel
theorem dX7_lackedWith_2 : decode cX7_lackedWith 2 = .ok (.iconst 0, 1) := by decide +kernel
theorem dX7_lackedWith_3 : decode cX7_lackedWith 3 = .ok (.istore_n 3, 1) := by decide +kernel
theorem dX7_lackedWith_4 : decode cX7_lackedWith 4 = .ok (.iload_n 3, 1) := by decide +kernel
theorem dX7_lackedWith_5 : decode cX7_lackedWith 5 = .ok (.aload_n 0, 1) := by decide +kernel
theorem dX7_lackedWith_6 : decode cX7_lackedWith 6 = .ok (.getfield 7, 3) := by decide +kernel
theorem dX7_lackedWith_9 : decode cX7_lackedWith 9 = .ok (.iconst 5, 1) := by decide +kernel
theorem dX7_lackedWith_10 : decode cX7_lackedWith 10 = .ok (.iaload, 1) := by decide +kernel
theorem dX7_lackedWith_11 : decode cX7_lackedWith 11 = .ok (.if_icmp .ge 31, 3) := by decide +kernel
theorem dX7_lackedWith_14 : decode cX7_lackedWith 14 = .ok (.iload_n 2, 1) := by decide +kernel
theorem dX7_lackedWith_15 : decode cX7_lackedWith 15 = .ok (.aload_n 0, 1) := by decide +kernel
theorem dX7_lackedWith_16 : decode cX7_lackedWith 16 = .ok (.iload_n 3, 1) := by decide +kernel
theorem dX7_lackedWith_17 : decode cX7_lackedWith 17 = .ok (.iconst 2, 1) := by decide +kernel
theorem dX7_lackedWith_18 : decode cX7_lackedWith 18 = .ok (.invokevirtual 47, 3) := by decide +kernel
theorem dX7_lackedWith_21 : decode cX7_lackedWith 21 = .ok (.iload_n 1, 1) := by decide +kernel
theorem dX7_lackedWith_22 : decode cX7_lackedWith 22 = .ok (.if_icmp .ne 11, 3) := by decide +kernel
theorem dX7_lackedWith_25 : decode cX7_lackedWith 25 = .ok (.aload_n 0, 1) := by decide +kernel
theorem dX7_lackedWith_26 : decode cX7_lackedWith 26 = .ok (.iload_n 3, 1) := by decide +kernel
theorem dX7_lackedWith_27 : decode cX7_lackedWith 27 = .ok (.invokevirtual 86, 3) := by decide +kernel
theorem dX7_lackedWith_30 : decode cX7_lackedWith 30 = .ok (.goto 4, 3) := by decide +kernel
theorem dX7_lackedWith_33 : decode cX7_lackedWith 33 = .ok (.iconst 0, 1) := by decide +kernel
theorem dX7_lackedWith_34 : decode cX7_lackedWith 34 = .ok (.iadd, 1) := by decide +kernel
theorem dX7_lackedWith_35 : decode cX7_lackedWith 35 = .ok (.istore_n 2, 1) := by decide +kernel
theorem dX7_lackedWith_36 : decode cX7_lackedWith 36 = .ok (.iinc 3 1, 3) := by decide +kernel
theorem dX7_lackedWith_39 : decode cX7_lackedWith 39 = .ok (.goto (-35), 3) := by decide +kernel
theorem dX7_lackedWith_42 : decode cX7_lackedWith 42 = .ok (.iload_n 2, 1) := by decide +kernel
theorem dX7_lackedWith_43 : decode cX7_lackedWith 43 = .ok (.ireturn, 1) := by decide +kernel
theorem dX7_tellsHeat_0 : decode cX7_tellsHeat 0 = .ok (.iload_n 2, 1) := by decide +kernel
theorem dX7_tellsHeat_1 : decode cX7_tellsHeat 1 = .ok (.tableswitch 57 3 6 #[31, 37, 44, 51], 31) := by decide +kernel
theorem dX7_tellsHeat_32 : decode cX7_tellsHeat 32 = .ok (.aload_n 0, 1) := by decide +kernel
theorem dX7_tellsHeat_33 : decode cX7_tellsHeat 33 = .ok (.iload_n 1, 1) := by decide +kernel
theorem dX7_tellsHeat_34 : decode cX7_tellsHeat 34 = .ok (.invokevirtual 185, 3) := by decide +kernel
theorem dX7_tellsHeat_37 : decode cX7_tellsHeat 37 = .ok (.ireturn, 1) := by decide +kernel
theorem dX7_tellsHeat_38 : decode cX7_tellsHeat 38 = .ok (.aload_n 0, 1) := by decide +kernel
theorem dX7_tellsHeat_39 : decode cX7_tellsHeat 39 = .ok (.iload_n 1, 1) := by decide +kernel
theorem dX7_tellsHeat_40 : decode cX7_tellsHeat 40 = .ok (.iconst 3, 1) := by decide +kernel
theorem dX7_tellsHeat_41 : decode cX7_tellsHeat 41 = .ok (.invokevirtual 89, 3) := by decide +kernel
theorem dX7_tellsHeat_44 : decode cX7_tellsHeat 44 = .ok (.ireturn, 1) := by decide +kernel
theorem dX7_tellsHeat_45 : decode cX7_tellsHeat 45 = .ok (.aload_n 0, 1) := by decide +kernel
theorem dX7_tellsHeat_46 : decode cX7_tellsHeat 46 = .ok (.iload_n 1, 1) := by decide +kernel
theorem dX7_tellsHeat_47 : decode cX7_tellsHeat 47 = .ok (.iconst 4, 1) := by decide +kernel
theorem dX7_tellsHeat_48 : decode cX7_tellsHeat 48 = .ok (.invokevirtual 89, 3) := by decide +kernel
theorem dX7_tellsHeat_51 : decode cX7_tellsHeat 51 = .ok (.ireturn, 1) := by decide +kernel
theorem dX7_tellsHeat_52 : decode cX7_tellsHeat 52 = .ok (.aload_n 0, 1) := by decide +kernel
theorem dX7_tellsHeat_53 : decode cX7_tellsHeat 53 = .ok (.iload_n 1, 1) := by decide +kernel
theorem dX7_tellsHeat_54 : decode cX7_tellsHeat 54 = .ok (.invokevirtual 188, 3) := by decide +kernel
theorem dX7_tellsHeat_57 : decode cX7_tellsHeat 57 = .ok (.ireturn, 1) := by decide +kernel
theorem dX7_tellsHeat_58 : decode cX7_tellsHeat 58 = .ok (.aload_n 0, 1) := by decide +kernel
theorem dX7_tellsHeat_59 : decode cX7_tellsHeat 59 = .ok (.iload_n 1, 1) := by decide +kernel
theorem dX7_tellsHeat_60 : decode cX7_tellsHeat 60 = .ok (.iload_n 2, 1) := by decide +kernel
theorem dX7_tellsHeat_61 : decode cX7_tellsHeat 61 = .ok (.invokevirtual 89, 3) := by decide +kernel
theorem dX7_tellsHeat_64 : decode cX7_tellsHeat 64 = .ok (.ireturn, 1) := by decide +kernel
theorem dX7_heat_0 : decode cX7_heat 0 = .ok (.aload_n 0, 1) := by decide +kernel
theorem dX7_heat_1 : decode cX7_heat 1 = .ok (.iconst 0, 1) := by decide +kernel
theorem dX7_heat_2 : decode cX7_heat 2 = .ok (.putfield 25, 3) := by decide +kernel
theorem dX7_heat_5 : decode cX7_heat 5 = .ok (.iload_n 1, 1) := by decide +kernel
theorem dX7_heat_6 : decode cX7_heat 6 = .ok (.invokestatic 135, 3) := by decide +kernel
theorem dX7_heat_9 : decode cX7_heat 9 = .ok (.ifCond .ne 9, 3) := by decide +kernel
theorem dX7_heat_12 : decode cX7_heat 12 = .ok (.aload_n 0, 1) := by decide +kernel
theorem dX7_heat_13 : decode cX7_heat 13 = .ok (.iconst 1, 1) := by decide +kernel
theorem dX7_heat_14 : decode cX7_heat 14 = .ok (.invokevirtual 138, 3) := by decide +kernel
theorem dX7_heat_17 : decode cX7_heat 17 = .ok (.ireturn, 1) := by decide +kernel
theorem dX7_heat_18 : decode cX7_heat 18 = .ok (.iload_n 2, 1) := by decide +kernel
theorem dX7_heat_19 : decode cX7_heat 19 = .ok (.iconst 0, 1) := by decide +kernel
theorem dX7_heat_20 : decode cX7_heat 20 = .ok (.bipush 6, 2) := by decide +kernel
theorem dX7_heat_22 : decode cX7_heat 22 = .ok (.invokestatic 29, 3) := by decide +kernel
theorem dX7_heat_25 : decode cX7_heat 25 = .ok (.ifCond .eq 12, 3) := by decide +kernel
theorem dX7_heat_28 : decode cX7_heat 28 = .ok (.aload_n 0, 1) := by decide +kernel
theorem dX7_heat_29 : decode cX7_heat 29 = .ok (.iload_n 1, 1) := by decide +kernel
theorem dX7_heat_30 : decode cX7_heat 30 = .ok (.iload_n 2, 1) := by decide +kernel
theorem dX7_heat_31 : decode cX7_heat 31 = .ok (.invokevirtual 191, 3) := by decide +kernel
theorem dX7_heat_34 : decode cX7_heat 34 = .ok (.goto 8, 3) := by decide +kernel
theorem dX7_heat_37 : decode cX7_heat 37 = .ok (.aload_n 0, 1) := by decide +kernel
theorem dX7_heat_38 : decode cX7_heat 38 = .ok (.iconst 2, 1) := by decide +kernel
theorem dX7_heat_39 : decode cX7_heat 39 = .ok (.invokevirtual 138, 3) := by decide +kernel
theorem dX7_heat_42 : decode cX7_heat 42 = .ok (.ireturn, 1) := by decide +kernel
theorem dX7_tellsDie_0 : decode cX7_tellsDie 0 = .ok (.iload_n 2, 1) := by decide +kernel
theorem dX7_tellsDie_1 : decode cX7_tellsDie 1 = .ok (.iconst 3, 1) := by decide +kernel
theorem dX7_tellsDie_2 : decode cX7_tellsDie 2 = .ok (.if_icmp .ne 23, 3) := by decide +kernel
theorem dX7_tellsDie_5 : decode cX7_tellsDie 5 = .ok (.aload_n 0, 1) := by decide +kernel
theorem dX7_tellsDie_6 : decode cX7_tellsDie 6 = .ok (.iload_n 1, 1) := by decide +kernel
theorem dX7_tellsDie_7 : decode cX7_tellsDie 7 = .ok (.invokevirtual 44, 3) := by decide +kernel
theorem dX7_tellsDie_10 : decode cX7_tellsDie 10 = .ok (.ifCond .eq 13, 3) := by decide +kernel
theorem dX7_tellsDie_13 : decode cX7_tellsDie 13 = .ok (.aload_n 0, 1) := by decide +kernel
theorem dX7_tellsDie_14 : decode cX7_tellsDie 14 = .ok (.getfield 7, 3) := by decide +kernel
theorem dX7_tellsDie_17 : decode cX7_tellsDie 17 = .ok (.bipush 14, 2) := by decide +kernel
theorem dX7_tellsDie_19 : decode cX7_tellsDie 19 = .ok (.iaload, 1) := by decide +kernel
theorem dX7_tellsDie_20 : decode cX7_tellsDie 20 = .ok (.goto 4, 3) := by decide +kernel
theorem dX7_tellsDie_23 : decode cX7_tellsDie 23 = .ok (.iconst 0, 1) := by decide +kernel
theorem dX7_tellsDie_24 : decode cX7_tellsDie 24 = .ok (.ireturn, 1) := by decide +kernel
theorem dX7_tellsDie_25 : decode cX7_tellsDie 25 = .ok (.aload_n 0, 1) := by decide +kernel
theorem dX7_tellsDie_26 : decode cX7_tellsDie 26 = .ok (.iload_n 1, 1) := by decide +kernel
theorem dX7_tellsDie_27 : decode cX7_tellsDie 27 = .ok (.iload_n 2, 1) := by decide +kernel
theorem dX7_tellsDie_28 : decode cX7_tellsDie 28 = .ok (.iconst 3, 1) := by decide +kernel
theorem dX7_tellsDie_29 : decode cX7_tellsDie 29 = .ok (.if_icmp .le 9, 3) := by decide +kernel
theorem dX7_tellsDie_32 : decode cX7_tellsDie 32 = .ok (.iload_n 2, 1) := by decide +kernel
theorem dX7_tellsDie_33 : decode cX7_tellsDie 33 = .ok (.iconst 1, 1) := by decide +kernel
theorem dX7_tellsDie_34 : decode cX7_tellsDie 34 = .ok (.isub, 1) := by decide +kernel
theorem dX7_tellsDie_35 : decode cX7_tellsDie 35 = .ok (.goto 4, 3) := by decide +kernel
theorem dX7_tellsDie_38 : decode cX7_tellsDie 38 = .ok (.iload_n 2, 1) := by decide +kernel
theorem dX7_tellsDie_39 : decode cX7_tellsDie 39 = .ok (.invokevirtual 36, 3) := by decide +kernel
theorem dX7_tellsDie_42 : decode cX7_tellsDie 42 = .ok (.ireturn, 1) := by decide +kernel
theorem dX7_dieOf_0 : decode cX7_dieOf 0 = .ok (.aload_n 0, 1) := by decide +kernel
theorem dX7_dieOf_1 : decode cX7_dieOf 1 = .ok (.iconst 0, 1) := by decide +kernel
theorem dX7_dieOf_2 : decode cX7_dieOf 2 = .ok (.putfield 25, 3) := by decide +kernel
theorem dX7_dieOf_5 : decode cX7_dieOf 5 = .ok (.iload_n 1, 1) := by decide +kernel
theorem dX7_dieOf_6 : decode cX7_dieOf 6 = .ok (.invokestatic 144, 3) := by decide +kernel
theorem dX7_dieOf_9 : decode cX7_dieOf 9 = .ok (.ifCond .ne 9, 3) := by decide +kernel
theorem dX7_dieOf_12 : decode cX7_dieOf 12 = .ok (.aload_n 0, 1) := by decide +kernel
theorem dX7_dieOf_13 : decode cX7_dieOf 13 = .ok (.iconst 1, 1) := by decide +kernel
theorem dX7_dieOf_14 : decode cX7_dieOf 14 = .ok (.invokevirtual 138, 3) := by decide +kernel
theorem dX7_dieOf_17 : decode cX7_dieOf 17 = .ok (.ireturn, 1) := by decide +kernel
theorem dX7_dieOf_18 : decode cX7_dieOf 18 = .ok (.iload_n 2, 1) := by decide +kernel
theorem dX7_dieOf_19 : decode cX7_dieOf 19 = .ok (.iconst 0, 1) := by decide +kernel
theorem dX7_dieOf_20 : decode cX7_dieOf 20 = .ok (.iconst 5, 1) := by decide +kernel
theorem dX7_dieOf_21 : decode cX7_dieOf 21 = .ok (.invokestatic 29, 3) := by decide +kernel
theorem dX7_dieOf_24 : decode cX7_dieOf 24 = .ok (.ifCond .eq 12, 3) := by decide +kernel
theorem dX7_dieOf_27 : decode cX7_dieOf 27 = .ok (.aload_n 0, 1) := by decide +kernel
theorem dX7_dieOf_28 : decode cX7_dieOf 28 = .ok (.iload_n 1, 1) := by decide +kernel
theorem dX7_dieOf_29 : decode cX7_dieOf 29 = .ok (.iload_n 2, 1) := by decide +kernel
theorem dX7_dieOf_30 : decode cX7_dieOf 30 = .ok (.invokevirtual 194, 3) := by decide +kernel
theorem dX7_dieOf_33 : decode cX7_dieOf 33 = .ok (.goto 8, 3) := by decide +kernel
theorem dX7_dieOf_36 : decode cX7_dieOf 36 = .ok (.aload_n 0, 1) := by decide +kernel
theorem dX7_dieOf_37 : decode cX7_dieOf 37 = .ok (.iconst 2, 1) := by decide +kernel
theorem dX7_dieOf_38 : decode cX7_dieOf 38 = .ok (.invokevirtual 138, 3) := by decide +kernel
theorem dX7_dieOf_41 : decode cX7_dieOf 41 = .ok (.ireturn, 1) := by decide +kernel
theorem dX7_reason_0 : decode cX7_reason 0 = .ok (.aload_n 0, 1) := by decide +kernel
theorem dX7_reason_1 : decode cX7_reason 1 = .ok (.iload_n 1, 1) := by decide +kernel
theorem dX7_reason_2 : decode cX7_reason 2 = .ok (.iconst 1, 1) := by decide +kernel
theorem dX7_reason_3 : decode cX7_reason 3 = .ok (.invokevirtual 47, 3) := by decide +kernel
theorem dX7_reason_6 : decode cX7_reason 6 = .ok (.istore_n 2, 1) := by decide +kernel
theorem dX7_reason_7 : decode cX7_reason 7 = .ok (.aload_n 0, 1) := by decide +kernel
theorem dX7_reason_8 : decode cX7_reason 8 = .ok (.bipush 6, 2) := by decide +kernel
theorem dX7_reason_10 : decode cX7_reason 10 = .ok (.invokevirtual 64, 3) := by decide +kernel
theorem dX7_reason_13 : decode cX7_reason 13 = .ok (.iload_n 1, 1) := by decide +kernel
theorem dX7_reason_14 : decode cX7_reason 14 = .ok (.if_icmp .ne 5, 3) := by decide +kernel
theorem dX7_reason_17 : decode cX7_reason 17 = .ok (.iconst 0, 1) := by decide +kernel
theorem dX7_reason_18 : decode cX7_reason 18 = .ok (.ireturn, 1) := by decide +kernel
theorem dX7_reason_19 : decode cX7_reason 19 = .ok (.aload_n 0, 1) := by decide +kernel
theorem dX7_reason_20 : decode cX7_reason 20 = .ok (.iload_n 2, 1) := by decide +kernel
theorem dX7_reason_21 : decode cX7_reason 21 = .ok (.invokevirtual 102, 3) := by decide +kernel
theorem dX7_reason_24 : decode cX7_reason 24 = .ok (.ifCond .ne 17, 3) := by decide +kernel
theorem dX7_reason_27 : decode cX7_reason 27 = .ok (.aload_n 0, 1) := by decide +kernel
theorem dX7_reason_28 : decode cX7_reason 28 = .ok (.iload_n 2, 1) := by decide +kernel
theorem dX7_reason_29 : decode cX7_reason 29 = .ok (.invokevirtual 44, 3) := by decide +kernel
theorem dX7_reason_32 : decode cX7_reason 32 = .ok (.ifCond .eq 7, 3) := by decide +kernel
theorem dX7_reason_35 : decode cX7_reason 35 = .ok (.iconst 1, 1) := by decide +kernel
theorem dX7_reason_36 : decode cX7_reason 36 = .ok (.goto 4, 3) := by decide +kernel
theorem dX7_reason_39 : decode cX7_reason 39 = .ok (.iconst 2, 1) := by decide +kernel
theorem dX7_reason_40 : decode cX7_reason 40 = .ok (.ireturn, 1) := by decide +kernel
theorem dX7_reason_41 : decode cX7_reason 41 = .ok (.aload_n 0, 1) := by decide +kernel
theorem dX7_reason_42 : decode cX7_reason 42 = .ok (.iload_n 1, 1) := by decide +kernel
theorem dX7_reason_43 : decode cX7_reason 43 = .ok (.iconst 0, 1) := by decide +kernel
theorem dX7_reason_44 : decode cX7_reason 44 = .ok (.iconst 5, 1) := by decide +kernel
theorem dX7_reason_45 : decode cX7_reason 45 = .ok (.invokevirtual 67, 3) := by decide +kernel
theorem dX7_reason_48 : decode cX7_reason 48 = .ok (.ifCond .ne 19, 3) := by decide +kernel
theorem dX7_reason_51 : decode cX7_reason 51 = .ok (.aload_n 0, 1) := by decide +kernel
theorem dX7_reason_52 : decode cX7_reason 52 = .ok (.aload_n 0, 1) := by decide +kernel
theorem dX7_reason_53 : decode cX7_reason 53 = .ok (.iload_n 1, 1) := by decide +kernel
theorem dX7_reason_54 : decode cX7_reason 54 = .ok (.iconst 2, 1) := by decide +kernel
theorem dX7_reason_55 : decode cX7_reason 55 = .ok (.invokevirtual 47, 3) := by decide +kernel
theorem dX7_reason_58 : decode cX7_reason 58 = .ok (.iconst 0, 1) := by decide +kernel
theorem dX7_reason_59 : decode cX7_reason 59 = .ok (.invokevirtual 89, 3) := by decide +kernel
theorem dX7_reason_62 : decode cX7_reason 62 = .ok (.ifCond .ne 5, 3) := by decide +kernel
theorem dX7_reason_65 : decode cX7_reason 65 = .ok (.iconst 3, 1) := by decide +kernel
theorem dX7_reason_66 : decode cX7_reason 66 = .ok (.ireturn, 1) := by decide +kernel
theorem dX7_reason_67 : decode cX7_reason 67 = .ok (.aload_n 0, 1) := by decide +kernel
theorem dX7_reason_68 : decode cX7_reason 68 = .ok (.iload_n 1, 1) := by decide +kernel
theorem dX7_reason_69 : decode cX7_reason 69 = .ok (.invokevirtual 111, 3) := by decide +kernel
theorem dX7_reason_72 : decode cX7_reason 72 = .ok (.iconst (-1), 1) := by decide +kernel
theorem dX7_reason_73 : decode cX7_reason 73 = .ok (.if_icmp .ne 5, 3) := by decide +kernel
theorem dX7_reason_76 : decode cX7_reason 76 = .ok (.iconst 4, 1) := by decide +kernel
theorem dX7_reason_77 : decode cX7_reason 77 = .ok (.ireturn, 1) := by decide +kernel
theorem dX7_reason_78 : decode cX7_reason 78 = .ok (.aload_n 0, 1) := by decide +kernel
theorem dX7_reason_79 : decode cX7_reason 79 = .ok (.bipush 6, 2) := by decide +kernel
theorem dX7_reason_81 : decode cX7_reason 81 = .ok (.invokevirtual 64, 3) := by decide +kernel
theorem dX7_reason_84 : decode cX7_reason 84 = .ok (.iconst (-1), 1) := by decide +kernel
theorem dX7_reason_85 : decode cX7_reason 85 = .ok (.if_icmp .eq 7, 3) := by decide +kernel
theorem dX7_reason_88 : decode cX7_reason 88 = .ok (.iconst 5, 1) := by decide +kernel
theorem dX7_reason_89 : decode cX7_reason 89 = .ok (.goto 5, 3) := by decide +kernel
theorem dX7_reason_92 : decode cX7_reason 92 = .ok (.bipush 6, 2) := by decide +kernel
theorem dX7_reason_94 : decode cX7_reason 94 = .ok (.ireturn, 1) := by decide +kernel
theorem dX7_tellsJob_0 : decode cX7_tellsJob 0 = .ok (.aload_n 0, 1) := by decide +kernel
theorem dX7_tellsJob_1 : decode cX7_tellsJob 1 = .ok (.iload_n 1, 1) := by decide +kernel
theorem dX7_tellsJob_2 : decode cX7_tellsJob 2 = .ok (.invokevirtual 83, 3) := by decide +kernel
theorem dX7_tellsJob_5 : decode cX7_tellsJob 5 = .ok (.istore_n 3, 1) := by decide +kernel
theorem dX7_tellsJob_6 : decode cX7_tellsJob 6 = .ok (.iload_n 3, 1) := by decide +kernel
theorem dX7_tellsJob_7 : decode cX7_tellsJob 7 = .ok (.iconst (-1), 1) := by decide +kernel
theorem dX7_tellsJob_8 : decode cX7_tellsJob 8 = .ok (.if_icmp .ne 5, 3) := by decide +kernel
theorem dX7_tellsJob_11 : decode cX7_tellsJob 11 = .ok (.iconst (-1), 1) := by decide +kernel
theorem dX7_tellsJob_12 : decode cX7_tellsJob 12 = .ok (.ireturn, 1) := by decide +kernel
theorem dX7_tellsJob_13 : decode cX7_tellsJob 13 = .ok (.iload_n 2, 1) := by decide +kernel
theorem dX7_tellsJob_14 : decode cX7_tellsJob 14 = .ok (.bipush 7, 2) := by decide +kernel
theorem dX7_tellsJob_16 : decode cX7_tellsJob 16 = .ok (.if_icmp .ne 11, 3) := by decide +kernel
theorem dX7_tellsJob_19 : decode cX7_tellsJob 19 = .ok (.aload_n 0, 1) := by decide +kernel
theorem dX7_tellsJob_20 : decode cX7_tellsJob 20 = .ok (.iload_n 3, 1) := by decide +kernel
theorem dX7_tellsJob_21 : decode cX7_tellsJob 21 = .ok (.invokevirtual 197, 3) := by decide +kernel
theorem dX7_tellsJob_24 : decode cX7_tellsJob 24 = .ok (.goto 9, 3) := by decide +kernel
theorem dX7_tellsJob_27 : decode cX7_tellsJob 27 = .ok (.aload_n 0, 1) := by decide +kernel
theorem dX7_tellsJob_28 : decode cX7_tellsJob 28 = .ok (.iload_n 3, 1) := by decide +kernel
theorem dX7_tellsJob_29 : decode cX7_tellsJob 29 = .ok (.iload_n 2, 1) := by decide +kernel
theorem dX7_tellsJob_30 : decode cX7_tellsJob 30 = .ok (.invokevirtual 47, 3) := by decide +kernel
theorem dX7_tellsJob_33 : decode cX7_tellsJob 33 = .ok (.ireturn, 1) := by decide +kernel
theorem dX7_jobOf_0 : decode cX7_jobOf 0 = .ok (.aload_n 0, 1) := by decide +kernel
theorem dX7_jobOf_1 : decode cX7_jobOf 1 = .ok (.iconst 0, 1) := by decide +kernel
theorem dX7_jobOf_2 : decode cX7_jobOf 2 = .ok (.putfield 25, 3) := by decide +kernel
theorem dX7_jobOf_5 : decode cX7_jobOf 5 = .ok (.iload_n 1, 1) := by decide +kernel
theorem dX7_jobOf_6 : decode cX7_jobOf 6 = .ok (.ifCond .lt 22, 3) := by decide +kernel
theorem dX7_jobOf_9 : decode cX7_jobOf 9 = .ok (.iload_n 2, 1) := by decide +kernel
theorem dX7_jobOf_10 : decode cX7_jobOf 10 = .ok (.iconst 0, 1) := by decide +kernel
theorem dX7_jobOf_11 : decode cX7_jobOf 11 = .ok (.bipush 7, 2) := by decide +kernel
theorem dX7_jobOf_13 : decode cX7_jobOf 13 = .ok (.invokestatic 29, 3) := by decide +kernel
theorem dX7_jobOf_16 : decode cX7_jobOf 16 = .ok (.ifCond .eq 12, 3) := by decide +kernel
theorem dX7_jobOf_19 : decode cX7_jobOf 19 = .ok (.aload_n 0, 1) := by decide +kernel
theorem dX7_jobOf_20 : decode cX7_jobOf 20 = .ok (.iload_n 1, 1) := by decide +kernel
theorem dX7_jobOf_21 : decode cX7_jobOf 21 = .ok (.iload_n 2, 1) := by decide +kernel
theorem dX7_jobOf_22 : decode cX7_jobOf 22 = .ok (.invokevirtual 200, 3) := by decide +kernel
theorem dX7_jobOf_25 : decode cX7_jobOf 25 = .ok (.goto 8, 3) := by decide +kernel
theorem dX7_jobOf_28 : decode cX7_jobOf 28 = .ok (.aload_n 0, 1) := by decide +kernel
theorem dX7_jobOf_29 : decode cX7_jobOf 29 = .ok (.iconst 1, 1) := by decide +kernel
theorem dX7_jobOf_30 : decode cX7_jobOf 30 = .ok (.invokevirtual 138, 3) := by decide +kernel
theorem dX7_jobOf_33 : decode cX7_jobOf 33 = .ok (.ireturn, 1) := by decide +kernel
theorem dX7_tellsBillet_0 : decode cX7_tellsBillet 0 = .ok (.aload_n 0, 1) := by decide +kernel
theorem dX7_tellsBillet_1 : decode cX7_tellsBillet 1 = .ok (.iload_n 1, 1) := by decide +kernel
theorem dX7_tellsBillet_2 : decode cX7_tellsBillet 2 = .ok (.iconst 0, 1) := by decide +kernel
theorem dX7_tellsBillet_3 : decode cX7_tellsBillet 3 = .ok (.invokevirtual 58, 3) := by decide +kernel
theorem dX7_tellsBillet_6 : decode cX7_tellsBillet 6 = .ok (.ifCond .ne 5, 3) := by decide +kernel
theorem dX7_tellsBillet_9 : decode cX7_tellsBillet 9 = .ok (.iconst (-1), 1) := by decide +kernel
theorem dX7_tellsBillet_10 : decode cX7_tellsBillet 10 = .ok (.ireturn, 1) := by decide +kernel
theorem dX7_tellsBillet_11 : decode cX7_tellsBillet 11 = .ok (.iload_n 2, 1) := by decide +kernel
theorem dX7_tellsBillet_12 : decode cX7_tellsBillet 12 = .ok (.ifCond .ne 14, 3) := by decide +kernel
theorem dX7_tellsBillet_15 : decode cX7_tellsBillet 15 = .ok (.aload_n 0, 1) := by decide +kernel
theorem dX7_tellsBillet_16 : decode cX7_tellsBillet 16 = .ok (.iload_n 1, 1) := by decide +kernel
theorem dX7_tellsBillet_17 : decode cX7_tellsBillet 17 = .ok (.iconst 0, 1) := by decide +kernel
theorem dX7_tellsBillet_18 : decode cX7_tellsBillet 18 = .ok (.invokevirtual 58, 3) := by decide +kernel
theorem dX7_tellsBillet_21 : decode cX7_tellsBillet 21 = .ok (.iconst 1, 1) := by decide +kernel
theorem dX7_tellsBillet_22 : decode cX7_tellsBillet 22 = .ok (.isub, 1) := by decide +kernel
theorem dX7_tellsBillet_23 : decode cX7_tellsBillet 23 = .ok (.goto 9, 3) := by decide +kernel
theorem dX7_tellsBillet_26 : decode cX7_tellsBillet 26 = .ok (.aload_n 0, 1) := by decide +kernel
theorem dX7_tellsBillet_27 : decode cX7_tellsBillet 27 = .ok (.iload_n 1, 1) := by decide +kernel
theorem dX7_tellsBillet_28 : decode cX7_tellsBillet 28 = .ok (.iload_n 2, 1) := by decide +kernel
theorem dX7_tellsBillet_29 : decode cX7_tellsBillet 29 = .ok (.invokevirtual 58, 3) := by decide +kernel
theorem dX7_tellsBillet_32 : decode cX7_tellsBillet 32 = .ok (.ireturn, 1) := by decide +kernel
theorem dX7_billet_0 : decode cX7_billet 0 = .ok (.aload_n 0, 1) := by decide +kernel
theorem dX7_billet_1 : decode cX7_billet 1 = .ok (.iconst 0, 1) := by decide +kernel
theorem dX7_billet_2 : decode cX7_billet 2 = .ok (.putfield 25, 3) := by decide +kernel
theorem dX7_billet_5 : decode cX7_billet 5 = .ok (.iload_n 1, 1) := by decide +kernel
theorem dX7_billet_6 : decode cX7_billet 6 = .ok (.iconst 0, 1) := by decide +kernel
theorem dX7_billet_7 : decode cX7_billet 7 = .ok (.bipush 6, 2) := by decide +kernel
theorem dX7_billet_9 : decode cX7_billet 9 = .ok (.invokestatic 29, 3) := by decide +kernel
theorem dX7_billet_12 : decode cX7_billet 12 = .ok (.ifCond .ne 9, 3) := by decide +kernel
theorem dX7_billet_15 : decode cX7_billet 15 = .ok (.aload_n 0, 1) := by decide +kernel
theorem dX7_billet_16 : decode cX7_billet 16 = .ok (.iconst 1, 1) := by decide +kernel
theorem dX7_billet_17 : decode cX7_billet 17 = .ok (.invokevirtual 138, 3) := by decide +kernel
theorem dX7_billet_20 : decode cX7_billet 20 = .ok (.ireturn, 1) := by decide +kernel
theorem dX7_billet_21 : decode cX7_billet 21 = .ok (.iload_n 2, 1) := by decide +kernel
theorem dX7_billet_22 : decode cX7_billet 22 = .ok (.iconst 0, 1) := by decide +kernel
theorem dX7_billet_23 : decode cX7_billet 23 = .ok (.iconst 3, 1) := by decide +kernel
theorem dX7_billet_24 : decode cX7_billet 24 = .ok (.invokestatic 29, 3) := by decide +kernel
theorem dX7_billet_27 : decode cX7_billet 27 = .ok (.ifCond .eq 12, 3) := by decide +kernel
theorem dX7_billet_30 : decode cX7_billet 30 = .ok (.aload_n 0, 1) := by decide +kernel
theorem dX7_billet_31 : decode cX7_billet 31 = .ok (.iload_n 1, 1) := by decide +kernel
theorem dX7_billet_32 : decode cX7_billet 32 = .ok (.iload_n 2, 1) := by decide +kernel
theorem dX7_billet_33 : decode cX7_billet 33 = .ok (.invokevirtual 203, 3) := by decide +kernel
theorem dX7_billet_36 : decode cX7_billet 36 = .ok (.goto 8, 3) := by decide +kernel
theorem dX7_billet_39 : decode cX7_billet 39 = .ok (.aload_n 0, 1) := by decide +kernel
theorem dX7_billet_40 : decode cX7_billet 40 = .ok (.iconst 2, 1) := by decide +kernel
theorem dX7_billet_41 : decode cX7_billet 41 = .ok (.invokevirtual 138, 3) := by decide +kernel
theorem dX7_billet_44 : decode cX7_billet 44 = .ok (.ireturn, 1) := by decide +kernel
theorem dX7_rushJobs_0 : decode cX7_rushJobs 0 = .ok (.iconst 0, 1) := by decide +kernel
theorem dX7_rushJobs_1 : decode cX7_rushJobs 1 = .ok (.istore_n 1, 1) := by decide +kernel
theorem dX7_rushJobs_2 : decode cX7_rushJobs 2 = .ok (.iconst 0, 1) := by decide +kernel
theorem dX7_rushJobs_3 : decode cX7_rushJobs 3 = .ok (.istore_n 2, 1) := by decide +kernel
theorem dX7_rushJobs_4 : decode cX7_rushJobs 4 = .ok (.iload_n 2, 1) := by decide +kernel
theorem dX7_rushJobs_5 : decode cX7_rushJobs 5 = .ok (.aload_n 0, 1) := by decide +kernel
theorem dX7_rushJobs_6 : decode cX7_rushJobs 6 = .ok (.getfield 7, 3) := by decide +kernel
theorem dX7_rushJobs_9 : decode cX7_rushJobs 9 = .ok (.iconst 5, 1) := by decide +kernel
theorem dX7_rushJobs_10 : decode cX7_rushJobs 10 = .ok (.iaload, 1) := by decide +kernel
theorem dX7_rushJobs_11 : decode cX7_rushJobs 11 = .ok (.if_icmp .ge 19, 3) := by decide +kernel
theorem dX7_rushJobs_14 : decode cX7_rushJobs 14 = .ok (.iload_n 1, 1) := by decide +kernel
theorem dX7_rushJobs_15 : decode cX7_rushJobs 15 = .ok (.aload_n 0, 1) := by decide +kernel
theorem dX7_rushJobs_16 : decode cX7_rushJobs 16 = .ok (.iload_n 2, 1) := by decide +kernel
theorem dX7_rushJobs_17 : decode cX7_rushJobs 17 = .ok (.bipush 6, 2) := by decide +kernel
theorem dX7_rushJobs_19 : decode cX7_rushJobs 19 = .ok (.invokevirtual 47, 3) := by decide +kernel
theorem dX7_rushJobs_22 : decode cX7_rushJobs 22 = .ok (.iadd, 1) := by decide +kernel
theorem dX7_rushJobs_23 : decode cX7_rushJobs 23 = .ok (.istore_n 1, 1) := by decide +kernel
theorem dX7_rushJobs_24 : decode cX7_rushJobs 24 = .ok (.iinc 2 1, 3) := by decide +kernel
theorem dX7_rushJobs_27 : decode cX7_rushJobs 27 = .ok (.goto (-23), 3) := by decide +kernel
theorem dX7_rushJobs_30 : decode cX7_rushJobs 30 = .ok (.iload_n 1, 1) := by decide +kernel
theorem dX7_rushJobs_31 : decode cX7_rushJobs 31 = .ok (.ireturn, 1) := by decide +kernel
theorem dX7_inFurnace_0 : decode cX7_inFurnace 0 = .ok (.iconst 0, 1) := by decide +kernel
theorem dX7_inFurnace_1 : decode cX7_inFurnace 1 = .ok (.istore_n 1, 1) := by decide +kernel
theorem dX7_inFurnace_2 : decode cX7_inFurnace 2 = .ok (.iconst 0, 1) := by decide +kernel
theorem dX7_inFurnace_3 : decode cX7_inFurnace 3 = .ok (.istore_n 2, 1) := by decide +kernel
theorem dX7_inFurnace_4 : decode cX7_inFurnace 4 = .ok (.iload_n 2, 1) := by decide +kernel
theorem dX7_inFurnace_5 : decode cX7_inFurnace 5 = .ok (.bipush 6, 2) := by decide +kernel
theorem dX7_inFurnace_7 : decode cX7_inFurnace 7 = .ok (.if_icmp .ge 26, 3) := by decide +kernel
theorem dX7_inFurnace_10 : decode cX7_inFurnace 10 = .ok (.iload_n 1, 1) := by decide +kernel
theorem dX7_inFurnace_11 : decode cX7_inFurnace 11 = .ok (.aload_n 0, 1) := by decide +kernel
theorem dX7_inFurnace_12 : decode cX7_inFurnace 12 = .ok (.iload_n 2, 1) := by decide +kernel
theorem dX7_inFurnace_13 : decode cX7_inFurnace 13 = .ok (.iconst 0, 1) := by decide +kernel
theorem dX7_inFurnace_14 : decode cX7_inFurnace 14 = .ok (.invokevirtual 58, 3) := by decide +kernel
theorem dX7_inFurnace_17 : decode cX7_inFurnace 17 = .ok (.ifCond .le 7, 3) := by decide +kernel
theorem dX7_inFurnace_20 : decode cX7_inFurnace 20 = .ok (.iconst 1, 1) := by decide +kernel
theorem dX7_inFurnace_21 : decode cX7_inFurnace 21 = .ok (.goto 4, 3) := by decide +kernel
theorem dX7_inFurnace_24 : decode cX7_inFurnace 24 = .ok (.iconst 0, 1) := by decide +kernel
theorem dX7_inFurnace_25 : decode cX7_inFurnace 25 = .ok (.iadd, 1) := by decide +kernel
theorem dX7_inFurnace_26 : decode cX7_inFurnace 26 = .ok (.istore_n 1, 1) := by decide +kernel
theorem dX7_inFurnace_27 : decode cX7_inFurnace 27 = .ok (.iinc 2 1, 3) := by decide +kernel
theorem dX7_inFurnace_30 : decode cX7_inFurnace 30 = .ok (.goto (-26), 3) := by decide +kernel
theorem dX7_inFurnace_33 : decode cX7_inFurnace 33 = .ok (.iload_n 1, 1) := by decide +kernel
theorem dX7_inFurnace_34 : decode cX7_inFurnace 34 = .ok (.ireturn, 1) := by decide +kernel
theorem dX7_counts_0 : decode cX7_counts 0 = .ok (.iload_n 1, 1) := by decide +kernel
theorem dX7_counts_1 : decode cX7_counts 1 = .ok (.tableswitch 102 0 11 #[63, 70, 77, 82, 102, 102, 102, 102, 102, 102, 87, 97], 63) := by decide +kernel
theorem dX7_counts_64 : decode cX7_counts 64 = .ok (.aload_n 0, 1) := by decide +kernel
theorem dX7_counts_65 : decode cX7_counts 65 = .ok (.getfield 7, 3) := by decide +kernel
theorem dX7_counts_68 : decode cX7_counts 68 = .ok (.iconst 4, 1) := by decide +kernel
theorem dX7_counts_69 : decode cX7_counts 69 = .ok (.iaload, 1) := by decide +kernel
theorem dX7_counts_70 : decode cX7_counts 70 = .ok (.ireturn, 1) := by decide +kernel
theorem dX7_counts_71 : decode cX7_counts 71 = .ok (.aload_n 0, 1) := by decide +kernel
theorem dX7_counts_72 : decode cX7_counts 72 = .ok (.getfield 7, 3) := by decide +kernel
theorem dX7_counts_75 : decode cX7_counts 75 = .ok (.iconst 5, 1) := by decide +kernel
theorem dX7_counts_76 : decode cX7_counts 76 = .ok (.iaload, 1) := by decide +kernel
theorem dX7_counts_77 : decode cX7_counts 77 = .ok (.ireturn, 1) := by decide +kernel
theorem dX7_counts_78 : decode cX7_counts 78 = .ok (.aload_n 0, 1) := by decide +kernel
theorem dX7_counts_79 : decode cX7_counts 79 = .ok (.invokevirtual 206, 3) := by decide +kernel
theorem dX7_counts_82 : decode cX7_counts 82 = .ok (.ireturn, 1) := by decide +kernel
theorem dX7_counts_83 : decode cX7_counts 83 = .ok (.aload_n 0, 1) := by decide +kernel
theorem dX7_counts_84 : decode cX7_counts 84 = .ok (.invokevirtual 209, 3) := by decide +kernel
theorem dX7_counts_87 : decode cX7_counts 87 = .ok (.ireturn, 1) := by decide +kernel
theorem dX7_counts_88 : decode cX7_counts 88 = .ok (.aload_n 0, 1) := by decide +kernel
theorem dX7_counts_89 : decode cX7_counts 89 = .ok (.getfield 7, 3) := by decide +kernel
theorem dX7_counts_92 : decode cX7_counts 92 = .ok (.bipush 13, 2) := by decide +kernel
theorem dX7_counts_94 : decode cX7_counts 94 = .ok (.iaload, 1) := by decide +kernel
theorem dX7_counts_95 : decode cX7_counts 95 = .ok (.iconst 1, 1) := by decide +kernel
theorem dX7_counts_96 : decode cX7_counts 96 = .ok (.isub, 1) := by decide +kernel
theorem dX7_counts_97 : decode cX7_counts 97 = .ok (.ireturn, 1) := by decide +kernel
theorem dX7_counts_98 : decode cX7_counts 98 = .ok (.aload_n 0, 1) := by decide +kernel
theorem dX7_counts_99 : decode cX7_counts 99 = .ok (.getfield 33, 3) := by decide +kernel
theorem dX7_counts_102 : decode cX7_counts 102 = .ok (.ireturn, 1) := by decide +kernel
theorem dX7_counts_103 : decode cX7_counts 103 = .ok (.aload_n 0, 1) := by decide +kernel
theorem dX7_counts_104 : decode cX7_counts 104 = .ok (.getfield 7, 3) := by decide +kernel
theorem dX7_counts_107 : decode cX7_counts 107 = .ok (.bipush 7, 2) := by decide +kernel
theorem dX7_counts_109 : decode cX7_counts 109 = .ok (.iload_n 1, 1) := by decide +kernel
theorem dX7_counts_110 : decode cX7_counts 110 = .ok (.iadd, 1) := by decide +kernel
theorem dX7_counts_111 : decode cX7_counts 111 = .ok (.iconst 4, 1) := by decide +kernel
theorem dX7_counts_112 : decode cX7_counts 112 = .ok (.isub, 1) := by decide +kernel
theorem dX7_counts_113 : decode cX7_counts 113 = .ok (.iaload, 1) := by decide +kernel
theorem dX7_counts_114 : decode cX7_counts 114 = .ok (.ireturn, 1) := by decide +kernel
theorem dX7_count_0 : decode cX7_count 0 = .ok (.aload_n 0, 1) := by decide +kernel
theorem dX7_count_1 : decode cX7_count 1 = .ok (.iconst 0, 1) := by decide +kernel
theorem dX7_count_2 : decode cX7_count 2 = .ok (.putfield 25, 3) := by decide +kernel
theorem dX7_count_5 : decode cX7_count 5 = .ok (.iload_n 1, 1) := by decide +kernel
theorem dX7_count_6 : decode cX7_count 6 = .ok (.iconst 0, 1) := by decide +kernel
theorem dX7_count_7 : decode cX7_count 7 = .ok (.bipush 11, 2) := by decide +kernel
theorem dX7_count_9 : decode cX7_count 9 = .ok (.invokestatic 29, 3) := by decide +kernel
theorem dX7_count_12 : decode cX7_count 12 = .ok (.ifCond .eq 11, 3) := by decide +kernel
theorem dX7_count_15 : decode cX7_count 15 = .ok (.aload_n 0, 1) := by decide +kernel
theorem dX7_count_16 : decode cX7_count 16 = .ok (.iload_n 1, 1) := by decide +kernel
theorem dX7_count_17 : decode cX7_count 17 = .ok (.invokevirtual 212, 3) := by decide +kernel
theorem dX7_count_20 : decode cX7_count 20 = .ok (.goto 8, 3) := by decide +kernel
theorem dX7_count_23 : decode cX7_count 23 = .ok (.aload_n 0, 1) := by decide +kernel
theorem dX7_count_24 : decode cX7_count 24 = .ok (.iconst 1, 1) := by decide +kernel
theorem dX7_count_25 : decode cX7_count 25 = .ok (.invokevirtual 138, 3) := by decide +kernel
theorem dX7_count_28 : decode cX7_count 28 = .ok (.ireturn, 1) := by decide +kernel
theorem dX7_setting_0 : decode cX7_setting 0 = .ok (.aload_n 0, 1) := by decide +kernel
theorem dX7_setting_1 : decode cX7_setting 1 = .ok (.iconst 0, 1) := by decide +kernel
theorem dX7_setting_2 : decode cX7_setting 2 = .ok (.putfield 25, 3) := by decide +kernel
theorem dX7_setting_5 : decode cX7_setting 5 = .ok (.iload_n 1, 1) := by decide +kernel
theorem dX7_setting_6 : decode cX7_setting 6 = .ok (.iconst 0, 1) := by decide +kernel
theorem dX7_setting_7 : decode cX7_setting 7 = .ok (.iconst 3, 1) := by decide +kernel
theorem dX7_setting_8 : decode cX7_setting 8 = .ok (.invokestatic 29, 3) := by decide +kernel
theorem dX7_setting_11 : decode cX7_setting 11 = .ok (.ifCond .eq 12, 3) := by decide +kernel
theorem dX7_setting_14 : decode cX7_setting 14 = .ok (.aload_n 0, 1) := by decide +kernel
theorem dX7_setting_15 : decode cX7_setting 15 = .ok (.getfield 7, 3) := by decide +kernel
theorem dX7_setting_18 : decode cX7_setting 18 = .ok (.iload_n 1, 1) := by decide +kernel
theorem dX7_setting_19 : decode cX7_setting 19 = .ok (.iaload, 1) := by decide +kernel
theorem dX7_setting_20 : decode cX7_setting 20 = .ok (.goto 8, 3) := by decide +kernel
theorem dX7_setting_23 : decode cX7_setting 23 = .ok (.aload_n 0, 1) := by decide +kernel
theorem dX7_setting_24 : decode cX7_setting 24 = .ok (.iconst 1, 1) := by decide +kernel
theorem dX7_setting_25 : decode cX7_setting 25 = .ok (.invokevirtual 138, 3) := by decide +kernel
theorem dX7_setting_28 : decode cX7_setting 28 = .ok (.ireturn, 1) := by decide +kernel
theorem dX7_passed_0 : decode cX7_passed 0 = .ok (.aload_n 0, 1) := by decide +kernel
theorem dX7_passed_1 : decode cX7_passed 1 = .ok (.invokevirtual 215, 3) := by decide +kernel
theorem dX7_passed_4 : decode cX7_passed 4 = .ok (.aload_n 0, 1) := by decide +kernel
theorem dX7_passed_5 : decode cX7_passed 5 = .ok (.getfield 7, 3) := by decide +kernel
theorem dX7_passed_8 : decode cX7_passed 8 = .ok (.bipush 8, 2) := by decide +kernel
theorem dX7_passed_10 : decode cX7_passed 10 = .ok (.iaload, 1) := by decide +kernel
theorem dX7_passed_11 : decode cX7_passed 11 = .ok (.istore_n 3, 1) := by decide +kernel
theorem dX7_passed_12 : decode cX7_passed 12 = .ok (.aload_n 0, 1) := by decide +kernel
theorem dX7_passed_13 : decode cX7_passed 13 = .ok (.getfield 7, 3) := by decide +kernel
theorem dX7_passed_16 : decode cX7_passed 16 = .ok (.bipush 12, 2) := by decide +kernel
theorem dX7_passed_18 : decode cX7_passed 18 = .ok (.iaload, 1) := by decide +kernel
theorem dX7_passed_19 : decode cX7_passed 19 = .ok (.istore 4, 2) := by decide +kernel
theorem dX7_passed_21 : decode cX7_passed 21 = .ok (.aload_n 0, 1) := by decide +kernel
theorem dX7_passed_22 : decode cX7_passed 22 = .ok (.getfield 7, 3) := by decide +kernel
theorem dX7_passed_25 : decode cX7_passed 25 = .ok (.bipush 9, 2) := by decide +kernel
theorem dX7_passed_27 : decode cX7_passed 27 = .ok (.iaload, 1) := by decide +kernel
theorem dX7_passed_28 : decode cX7_passed 28 = .ok (.istore 5, 2) := by decide +kernel
theorem dX7_passed_30 : decode cX7_passed 30 = .ok (.aload_n 0, 1) := by decide +kernel
theorem dX7_passed_31 : decode cX7_passed 31 = .ok (.iload_n 1, 1) := by decide +kernel
theorem dX7_passed_32 : decode cX7_passed 32 = .ok (.invokevirtual 154, 3) := by decide +kernel
theorem dX7_passed_35 : decode cX7_passed 35 = .ok (.istore 6, 2) := by decide +kernel
theorem dX7_passed_37 : decode cX7_passed 37 = .ok (.iload_n 2, 1) := by decide +kernel
theorem dX7_passed_38 : decode cX7_passed 38 = .ok (.ifCond .ne 8, 3) := by decide +kernel
theorem dX7_passed_41 : decode cX7_passed 41 = .ok (.iload 6, 2) := by decide +kernel
theorem dX7_passed_43 : decode cX7_passed 43 = .ok (.goto 62, 3) := by decide +kernel
theorem dX7_passed_46 : decode cX7_passed 46 = .ok (.iload_n 2, 1) := by decide +kernel
theorem dX7_passed_47 : decode cX7_passed 47 = .ok (.iconst 1, 1) := by decide +kernel
theorem dX7_passed_48 : decode cX7_passed 48 = .ok (.if_icmp .ne 15, 3) := by decide +kernel
theorem dX7_passed_51 : decode cX7_passed 51 = .ok (.aload_n 0, 1) := by decide +kernel
theorem dX7_passed_52 : decode cX7_passed 52 = .ok (.getfield 7, 3) := by decide +kernel
theorem dX7_passed_55 : decode cX7_passed 55 = .ok (.bipush 8, 2) := by decide +kernel
theorem dX7_passed_57 : decode cX7_passed 57 = .ok (.iaload, 1) := by decide +kernel
theorem dX7_passed_58 : decode cX7_passed 58 = .ok (.iload_n 3, 1) := by decide +kernel
theorem dX7_passed_59 : decode cX7_passed 59 = .ok (.isub, 1) := by decide +kernel
theorem dX7_passed_60 : decode cX7_passed 60 = .ok (.goto 45, 3) := by decide +kernel
theorem dX7_passed_63 : decode cX7_passed 63 = .ok (.iload_n 2, 1) := by decide +kernel
theorem dX7_passed_64 : decode cX7_passed 64 = .ok (.iconst 2, 1) := by decide +kernel
theorem dX7_passed_65 : decode cX7_passed 65 = .ok (.if_icmp .ne 12, 3) := by decide +kernel
theorem dX7_passed_68 : decode cX7_passed 68 = .ok (.aload_n 0, 1) := by decide +kernel
theorem dX7_passed_69 : decode cX7_passed 69 = .ok (.getfield 7, 3) := by decide +kernel
theorem dX7_passed_72 : decode cX7_passed 72 = .ok (.iconst 5, 1) := by decide +kernel
theorem dX7_passed_73 : decode cX7_passed 73 = .ok (.iaload, 1) := by decide +kernel
theorem dX7_passed_74 : decode cX7_passed 74 = .ok (.goto 31, 3) := by decide +kernel
theorem dX7_passed_77 : decode cX7_passed 77 = .ok (.iload_n 2, 1) := by decide +kernel
theorem dX7_passed_78 : decode cX7_passed 78 = .ok (.iconst 3, 1) := by decide +kernel
theorem dX7_passed_79 : decode cX7_passed 79 = .ok (.if_icmp .ne 16, 3) := by decide +kernel
theorem dX7_passed_82 : decode cX7_passed 82 = .ok (.aload_n 0, 1) := by decide +kernel
theorem dX7_passed_83 : decode cX7_passed 83 = .ok (.getfield 7, 3) := by decide +kernel
theorem dX7_passed_86 : decode cX7_passed 86 = .ok (.bipush 12, 2) := by decide +kernel
theorem dX7_passed_88 : decode cX7_passed 88 = .ok (.iaload, 1) := by decide +kernel
theorem dX7_passed_89 : decode cX7_passed 89 = .ok (.iload 4, 2) := by decide +kernel
theorem dX7_passed_91 : decode cX7_passed 91 = .ok (.isub, 1) := by decide +kernel
theorem dX7_passed_92 : decode cX7_passed 92 = .ok (.goto 13, 3) := by decide +kernel
theorem dX7_passed_95 : decode cX7_passed 95 = .ok (.aload_n 0, 1) := by decide +kernel
theorem dX7_passed_96 : decode cX7_passed 96 = .ok (.getfield 7, 3) := by decide +kernel
theorem dX7_passed_99 : decode cX7_passed 99 = .ok (.bipush 9, 2) := by decide +kernel
theorem dX7_passed_101 : decode cX7_passed 101 = .ok (.iaload, 1) := by decide +kernel
theorem dX7_passed_102 : decode cX7_passed 102 = .ok (.iload 5, 2) := by decide +kernel
theorem dX7_passed_104 : decode cX7_passed 104 = .ok (.isub, 1) := by decide +kernel
theorem dX7_passed_105 : decode cX7_passed 105 = .ok (.istore 7, 2) := by decide +kernel
theorem dX7_passed_107 : decode cX7_passed 107 = .ok (.aload_n 0, 1) := by decide +kernel
theorem dX7_passed_108 : decode cX7_passed 108 = .ok (.invokevirtual 218, 3) := by decide +kernel
theorem dX7_passed_111 : decode cX7_passed 111 = .ok (.iload 7, 2) := by decide +kernel
theorem dX7_passed_113 : decode cX7_passed 113 = .ok (.ireturn, 1) := by decide +kernel
theorem dX7_ifPassed_0 : decode cX7_ifPassed 0 = .ok (.aload_n 0, 1) := by decide +kernel
theorem dX7_ifPassed_1 : decode cX7_ifPassed 1 = .ok (.iconst 0, 1) := by decide +kernel
theorem dX7_ifPassed_2 : decode cX7_ifPassed 2 = .ok (.putfield 25, 3) := by decide +kernel
theorem dX7_ifPassed_5 : decode cX7_ifPassed 5 = .ok (.iload_n 1, 1) := by decide +kernel
theorem dX7_ifPassed_6 : decode cX7_ifPassed 6 = .ok (.iconst 1, 1) := by decide +kernel
theorem dX7_ifPassed_7 : decode cX7_ifPassed 7 = .ok (.sipush 240, 3) := by decide +kernel
theorem dX7_ifPassed_10 : decode cX7_ifPassed 10 = .ok (.invokestatic 29, 3) := by decide +kernel
theorem dX7_ifPassed_13 : decode cX7_ifPassed 13 = .ok (.ifCond .eq 21, 3) := by decide +kernel
theorem dX7_ifPassed_16 : decode cX7_ifPassed 16 = .ok (.iload_n 2, 1) := by decide +kernel
theorem dX7_ifPassed_17 : decode cX7_ifPassed 17 = .ok (.iconst 0, 1) := by decide +kernel
theorem dX7_ifPassed_18 : decode cX7_ifPassed 18 = .ok (.iconst 4, 1) := by decide +kernel
theorem dX7_ifPassed_19 : decode cX7_ifPassed 19 = .ok (.invokestatic 29, 3) := by decide +kernel
theorem dX7_ifPassed_22 : decode cX7_ifPassed 22 = .ok (.ifCond .eq 12, 3) := by decide +kernel
theorem dX7_ifPassed_25 : decode cX7_ifPassed 25 = .ok (.aload_n 0, 1) := by decide +kernel
theorem dX7_ifPassed_26 : decode cX7_ifPassed 26 = .ok (.iload_n 1, 1) := by decide +kernel
theorem dX7_ifPassed_27 : decode cX7_ifPassed 27 = .ok (.iload_n 2, 1) := by decide +kernel
theorem dX7_ifPassed_28 : decode cX7_ifPassed 28 = .ok (.invokevirtual 221, 3) := by decide +kernel
theorem dX7_ifPassed_31 : decode cX7_ifPassed 31 = .ok (.goto 8, 3) := by decide +kernel
theorem dX7_ifPassed_34 : decode cX7_ifPassed 34 = .ok (.aload_n 0, 1) := by decide +kernel
theorem dX7_ifPassed_35 : decode cX7_ifPassed 35 = .ok (.iconst 1, 1) := by decide +kernel
theorem dX7_ifPassed_36 : decode cX7_ifPassed 36 = .ok (.invokevirtual 138, 3) := by decide +kernel
theorem dX7_ifPassed_39 : decode cX7_ifPassed 39 = .ok (.ireturn, 1) := by decide +kernel
theorem dX7_untilGone_0 : decode cX7_untilGone 0 = .ok (.aload_n 0, 1) := by decide +kernel
theorem dX7_untilGone_1 : decode cX7_untilGone 1 = .ok (.invokevirtual 215, 3) := by decide +kernel
theorem dX7_untilGone_4 : decode cX7_untilGone 4 = .ok (.aload_n 0, 1) := by decide +kernel
theorem dX7_untilGone_5 : decode cX7_untilGone 5 = .ok (.iload_n 1, 1) := by decide +kernel
theorem dX7_untilGone_6 : decode cX7_untilGone 6 = .ok (.invokevirtual 61, 3) := by decide +kernel
theorem dX7_untilGone_9 : decode cX7_untilGone 9 = .ok (.istore_n 3, 1) := by decide +kernel
theorem dX7_untilGone_10 : decode cX7_untilGone 10 = .ok (.aload_n 0, 1) := by decide +kernel
theorem dX7_untilGone_11 : decode cX7_untilGone 11 = .ok (.getfield 7, 3) := by decide +kernel
theorem dX7_untilGone_14 : decode cX7_untilGone 14 = .ok (.bipush 60, 2) := by decide +kernel
theorem dX7_untilGone_16 : decode cX7_untilGone 16 = .ok (.bipush 7, 2) := by decide +kernel
theorem dX7_untilGone_18 : decode cX7_untilGone 18 = .ok (.iload_n 3, 1) := by decide +kernel
theorem dX7_untilGone_19 : decode cX7_untilGone 19 = .ok (.imul, 1) := by decide +kernel
theorem dX7_untilGone_20 : decode cX7_untilGone 20 = .ok (.iadd, 1) := by decide +kernel
theorem dX7_untilGone_21 : decode cX7_untilGone 21 = .ok (.bipush 6, 2) := by decide +kernel
theorem dX7_untilGone_23 : decode cX7_untilGone 23 = .ok (.iadd, 1) := by decide +kernel
theorem dX7_untilGone_24 : decode cX7_untilGone 24 = .ok (.iload_n 2, 1) := by decide +kernel
theorem dX7_untilGone_25 : decode cX7_untilGone 25 = .ok (.ifCond .eq 7, 3) := by decide +kernel
theorem dX7_untilGone_28 : decode cX7_untilGone 28 = .ok (.iconst 1, 1) := by decide +kernel
theorem dX7_untilGone_29 : decode cX7_untilGone 29 = .ok (.goto 18, 3) := by decide +kernel
theorem dX7_untilGone_32 : decode cX7_untilGone 32 = .ok (.aload_n 0, 1) := by decide +kernel
theorem dX7_untilGone_33 : decode cX7_untilGone 33 = .ok (.getfield 7, 3) := by decide +kernel
theorem dX7_untilGone_36 : decode cX7_untilGone 36 = .ok (.bipush 60, 2) := by decide +kernel
theorem dX7_untilGone_38 : decode cX7_untilGone 38 = .ok (.bipush 7, 2) := by decide +kernel
theorem dX7_untilGone_40 : decode cX7_untilGone 40 = .ok (.iload_n 3, 1) := by decide +kernel
theorem dX7_untilGone_41 : decode cX7_untilGone 41 = .ok (.imul, 1) := by decide +kernel
theorem dX7_untilGone_42 : decode cX7_untilGone 42 = .ok (.iadd, 1) := by decide +kernel
theorem dX7_untilGone_43 : decode cX7_untilGone 43 = .ok (.bipush 6, 2) := by decide +kernel
theorem dX7_untilGone_45 : decode cX7_untilGone 45 = .ok (.iadd, 1) := by decide +kernel
theorem dX7_untilGone_46 : decode cX7_untilGone 46 = .ok (.iaload, 1) := by decide +kernel
theorem dX7_untilGone_47 : decode cX7_untilGone 47 = .ok (.iastore, 1) := by decide +kernel
theorem dX7_untilGone_48 : decode cX7_untilGone 48 = .ok (.iconst 0, 1) := by decide +kernel
theorem dX7_untilGone_49 : decode cX7_untilGone 49 = .ok (.istore 4, 2) := by decide +kernel
theorem dX7_untilGone_51 : decode cX7_untilGone 51 = .ok (.iload 4, 2) := by decide +kernel
theorem dX7_untilGone_53 : decode cX7_untilGone 53 = .ok (.sipush 240, 3) := by decide +kernel
theorem dX7_untilGone_56 : decode cX7_untilGone 56 = .ok (.if_icmp .ge 22, 3) := by decide +kernel
theorem dX7_untilGone_59 : decode cX7_untilGone 59 = .ok (.aload_n 0, 1) := by decide +kernel
theorem dX7_untilGone_60 : decode cX7_untilGone 60 = .ok (.iload_n 1, 1) := by decide +kernel
theorem dX7_untilGone_61 : decode cX7_untilGone 61 = .ok (.invokevirtual 61, 3) := by decide +kernel
theorem dX7_untilGone_64 : decode cX7_untilGone 64 = .ok (.iconst (-1), 1) := by decide +kernel
theorem dX7_untilGone_65 : decode cX7_untilGone 65 = .ok (.if_icmp .eq 13, 3) := by decide +kernel
theorem dX7_untilGone_68 : decode cX7_untilGone 68 = .ok (.aload_n 0, 1) := by decide +kernel
theorem dX7_untilGone_69 : decode cX7_untilGone 69 = .ok (.invokevirtual 132, 3) := by decide +kernel
theorem dX7_untilGone_72 : decode cX7_untilGone 72 = .ok (.iinc 4 1, 3) := by decide +kernel
theorem dX7_untilGone_75 : decode cX7_untilGone 75 = .ok (.goto (-24), 3) := by decide +kernel
theorem dX7_untilGone_78 : decode cX7_untilGone 78 = .ok (.aload_n 0, 1) := by decide +kernel
theorem dX7_untilGone_79 : decode cX7_untilGone 79 = .ok (.iload_n 1, 1) := by decide +kernel
theorem dX7_untilGone_80 : decode cX7_untilGone 80 = .ok (.invokevirtual 61, 3) := by decide +kernel
theorem dX7_untilGone_83 : decode cX7_untilGone 83 = .ok (.iconst (-1), 1) := by decide +kernel
theorem dX7_untilGone_84 : decode cX7_untilGone 84 = .ok (.if_icmp .ne 7, 3) := by decide +kernel
theorem dX7_untilGone_87 : decode cX7_untilGone 87 = .ok (.iconst 1, 1) := by decide +kernel
theorem dX7_untilGone_88 : decode cX7_untilGone 88 = .ok (.goto 4, 3) := by decide +kernel
theorem dX7_untilGone_91 : decode cX7_untilGone 91 = .ok (.iconst 0, 1) := by decide +kernel
theorem dX7_untilGone_92 : decode cX7_untilGone 92 = .ok (.istore 5, 2) := by decide +kernel
theorem dX7_untilGone_94 : decode cX7_untilGone 94 = .ok (.aload_n 0, 1) := by decide +kernel
theorem dX7_untilGone_95 : decode cX7_untilGone 95 = .ok (.invokevirtual 218, 3) := by decide +kernel
theorem dX7_untilGone_98 : decode cX7_untilGone 98 = .ok (.iload 5, 2) := by decide +kernel
theorem dX7_untilGone_100 : decode cX7_untilGone 100 = .ok (.ifCond .eq 8, 3) := by decide +kernel
theorem dX7_untilGone_103 : decode cX7_untilGone 103 = .ok (.iload 4, 2) := by decide +kernel
theorem dX7_untilGone_105 : decode cX7_untilGone 105 = .ok (.goto 4, 3) := by decide +kernel
theorem dX7_untilGone_108 : decode cX7_untilGone 108 = .ok (.iconst (-1), 1) := by decide +kernel
theorem dX7_untilGone_109 : decode cX7_untilGone 109 = .ok (.ireturn, 1) := by decide +kernel
theorem dX7_doneIn_0 : decode cX7_doneIn 0 = .ok (.aload_n 0, 1) := by decide +kernel
theorem dX7_doneIn_1 : decode cX7_doneIn 1 = .ok (.iconst 0, 1) := by decide +kernel
theorem dX7_doneIn_2 : decode cX7_doneIn 2 = .ok (.putfield 25, 3) := by decide +kernel
theorem dX7_doneIn_5 : decode cX7_doneIn 5 = .ok (.aload_n 0, 1) := by decide +kernel
theorem dX7_doneIn_6 : decode cX7_doneIn 6 = .ok (.iload_n 1, 1) := by decide +kernel
theorem dX7_doneIn_7 : decode cX7_doneIn 7 = .ok (.invokevirtual 61, 3) := by decide +kernel
theorem dX7_doneIn_10 : decode cX7_doneIn 10 = .ok (.iconst (-1), 1) := by decide +kernel
theorem dX7_doneIn_11 : decode cX7_doneIn 11 = .ok (.if_icmp .eq 12, 3) := by decide +kernel
theorem dX7_doneIn_14 : decode cX7_doneIn 14 = .ok (.aload_n 0, 1) := by decide +kernel
theorem dX7_doneIn_15 : decode cX7_doneIn 15 = .ok (.iload_n 1, 1) := by decide +kernel
theorem dX7_doneIn_16 : decode cX7_doneIn 16 = .ok (.iconst 0, 1) := by decide +kernel
theorem dX7_doneIn_17 : decode cX7_doneIn 17 = .ok (.invokevirtual 224, 3) := by decide +kernel
theorem dX7_doneIn_20 : decode cX7_doneIn 20 = .ok (.goto 8, 3) := by decide +kernel
theorem dX7_doneIn_23 : decode cX7_doneIn 23 = .ok (.aload_n 0, 1) := by decide +kernel
theorem dX7_doneIn_24 : decode cX7_doneIn 24 = .ok (.iconst 1, 1) := by decide +kernel
theorem dX7_doneIn_25 : decode cX7_doneIn 25 = .ok (.invokevirtual 138, 3) := by decide +kernel
theorem dX7_doneIn_28 : decode cX7_doneIn 28 = .ok (.ireturn, 1) := by decide +kernel
theorem dX7_earlier_0 : decode cX7_earlier 0 = .ok (.aload_n 0, 1) := by decide +kernel
theorem dX7_earlier_1 : decode cX7_earlier 1 = .ok (.iload_n 1, 1) := by decide +kernel
theorem dX7_earlier_2 : decode cX7_earlier 2 = .ok (.iconst 0, 1) := by decide +kernel
theorem dX7_earlier_3 : decode cX7_earlier 3 = .ok (.invokevirtual 224, 3) := by decide +kernel
theorem dX7_earlier_6 : decode cX7_earlier 6 = .ok (.istore_n 2, 1) := by decide +kernel
theorem dX7_earlier_7 : decode cX7_earlier 7 = .ok (.aload_n 0, 1) := by decide +kernel
theorem dX7_earlier_8 : decode cX7_earlier 8 = .ok (.iload_n 1, 1) := by decide +kernel
theorem dX7_earlier_9 : decode cX7_earlier 9 = .ok (.iconst 1, 1) := by decide +kernel
theorem dX7_earlier_10 : decode cX7_earlier 10 = .ok (.invokevirtual 224, 3) := by decide +kernel
theorem dX7_earlier_13 : decode cX7_earlier 13 = .ok (.istore_n 3, 1) := by decide +kernel
theorem dX7_earlier_14 : decode cX7_earlier 14 = .ok (.iload_n 2, 1) := by decide +kernel
theorem dX7_earlier_15 : decode cX7_earlier 15 = .ok (.iconst (-1), 1) := by decide +kernel
theorem dX7_earlier_16 : decode cX7_earlier 16 = .ok (.if_icmp .eq 8, 3) := by decide +kernel
theorem dX7_earlier_19 : decode cX7_earlier 19 = .ok (.iload_n 3, 1) := by decide +kernel
theorem dX7_earlier_20 : decode cX7_earlier 20 = .ok (.iconst (-1), 1) := by decide +kernel
theorem dX7_earlier_21 : decode cX7_earlier 21 = .ok (.if_icmp .ne 27, 3) := by decide +kernel
theorem dX7_earlier_24 : decode cX7_earlier 24 = .ok (.iload_n 2, 1) := by decide +kernel
theorem dX7_earlier_25 : decode cX7_earlier 25 = .ok (.iload_n 3, 1) := by decide +kernel
theorem dX7_earlier_26 : decode cX7_earlier 26 = .ok (.if_icmp .ne 7, 3) := by decide +kernel
theorem dX7_earlier_29 : decode cX7_earlier 29 = .ok (.iconst 0, 1) := by decide +kernel
theorem dX7_earlier_30 : decode cX7_earlier 30 = .ok (.goto 17, 3) := by decide +kernel
theorem dX7_earlier_33 : decode cX7_earlier 33 = .ok (.iload_n 2, 1) := by decide +kernel
theorem dX7_earlier_34 : decode cX7_earlier 34 = .ok (.iconst (-1), 1) := by decide +kernel
theorem dX7_earlier_35 : decode cX7_earlier 35 = .ok (.if_icmp .ne 9, 3) := by decide +kernel
theorem dX7_earlier_38 : decode cX7_earlier 38 = .ok (.sipush 999, 3) := by decide +kernel
theorem dX7_earlier_41 : decode cX7_earlier 41 = .ok (.goto 6, 3) := by decide +kernel
theorem dX7_earlier_44 : decode cX7_earlier 44 = .ok (.sipush (-999), 3) := by decide +kernel
theorem dX7_earlier_47 : decode cX7_earlier 47 = .ok (.ireturn, 1) := by decide +kernel
theorem dX7_earlier_48 : decode cX7_earlier 48 = .ok (.iload_n 2, 1) := by decide +kernel
theorem dX7_earlier_49 : decode cX7_earlier 49 = .ok (.iload_n 3, 1) := by decide +kernel
theorem dX7_earlier_50 : decode cX7_earlier 50 = .ok (.isub, 1) := by decide +kernel
theorem dX7_earlier_51 : decode cX7_earlier 51 = .ok (.ireturn, 1) := by decide +kernel
theorem dX7_ifRush_0 : decode cX7_ifRush 0 = .ok (.aload_n 0, 1) := by decide +kernel
theorem dX7_ifRush_1 : decode cX7_ifRush 1 = .ok (.iconst 0, 1) := by decide +kernel
theorem dX7_ifRush_2 : decode cX7_ifRush 2 = .ok (.putfield 25, 3) := by decide +kernel
theorem dX7_ifRush_5 : decode cX7_ifRush 5 = .ok (.aload_n 0, 1) := by decide +kernel
theorem dX7_ifRush_6 : decode cX7_ifRush 6 = .ok (.iload_n 1, 1) := by decide +kernel
theorem dX7_ifRush_7 : decode cX7_ifRush 7 = .ok (.invokevirtual 61, 3) := by decide +kernel
theorem dX7_ifRush_10 : decode cX7_ifRush 10 = .ok (.iconst (-1), 1) := by decide +kernel
theorem dX7_ifRush_11 : decode cX7_ifRush 11 = .ok (.if_icmp .eq 11, 3) := by decide +kernel
theorem dX7_ifRush_14 : decode cX7_ifRush 14 = .ok (.aload_n 0, 1) := by decide +kernel
theorem dX7_ifRush_15 : decode cX7_ifRush 15 = .ok (.iload_n 1, 1) := by decide +kernel
theorem dX7_ifRush_16 : decode cX7_ifRush 16 = .ok (.invokevirtual 228, 3) := by decide +kernel
theorem dX7_ifRush_19 : decode cX7_ifRush 19 = .ok (.goto 8, 3) := by decide +kernel
theorem dX7_ifRush_22 : decode cX7_ifRush 22 = .ok (.aload_n 0, 1) := by decide +kernel
theorem dX7_ifRush_23 : decode cX7_ifRush 23 = .ok (.iconst 1, 1) := by decide +kernel
theorem dX7_ifRush_24 : decode cX7_ifRush 24 = .ok (.invokevirtual 138, 3) := by decide +kernel
theorem dX7_ifRush_27 : decode cX7_ifRush 27 = .ok (.ireturn, 1) := by decide +kernel
theorem dX7_reheatsFor_0 : decode cX7_reheatsFor 0 = .ok (.aload_n 0, 1) := by decide +kernel
theorem dX7_reheatsFor_1 : decode cX7_reheatsFor 1 = .ok (.getfield 7, 3) := by decide +kernel
theorem dX7_reheatsFor_4 : decode cX7_reheatsFor 4 = .ok (.iconst 2, 1) := by decide +kernel
theorem dX7_reheatsFor_5 : decode cX7_reheatsFor 5 = .ok (.iaload, 1) := by decide +kernel
theorem dX7_reheatsFor_6 : decode cX7_reheatsFor 6 = .ok (.istore_n 2, 1) := by decide +kernel
theorem dX7_reheatsFor_7 : decode cX7_reheatsFor 7 = .ok (.iconst (-1), 1) := by decide +kernel
theorem dX7_reheatsFor_8 : decode cX7_reheatsFor 8 = .ok (.istore_n 3, 1) := by decide +kernel
theorem dX7_reheatsFor_9 : decode cX7_reheatsFor 9 = .ok (.iconst 0, 1) := by decide +kernel
theorem dX7_reheatsFor_10 : decode cX7_reheatsFor 10 = .ok (.istore 4, 2) := by decide +kernel
theorem dX7_reheatsFor_12 : decode cX7_reheatsFor 12 = .ok (.iconst 0, 1) := by decide +kernel
theorem dX7_reheatsFor_13 : decode cX7_reheatsFor 13 = .ok (.istore 5, 2) := by decide +kernel
theorem dX7_reheatsFor_15 : decode cX7_reheatsFor 15 = .ok (.iconst 0, 1) := by decide +kernel
theorem dX7_reheatsFor_16 : decode cX7_reheatsFor 16 = .ok (.istore 6, 2) := by decide +kernel
theorem dX7_reheatsFor_18 : decode cX7_reheatsFor 18 = .ok (.iload 6, 2) := by decide +kernel
theorem dX7_reheatsFor_20 : decode cX7_reheatsFor 20 = .ok (.iconst 4, 1) := by decide +kernel
theorem dX7_reheatsFor_21 : decode cX7_reheatsFor 21 = .ok (.if_icmp .ge 70, 3) := by decide +kernel
theorem dX7_reheatsFor_24 : decode cX7_reheatsFor 24 = .ok (.aload_n 0, 1) := by decide +kernel
theorem dX7_reheatsFor_25 : decode cX7_reheatsFor 25 = .ok (.getfield 7, 3) := by decide +kernel
theorem dX7_reheatsFor_28 : decode cX7_reheatsFor 28 = .ok (.iconst 2, 1) := by decide +kernel
theorem dX7_reheatsFor_29 : decode cX7_reheatsFor 29 = .ok (.iload 6, 2) := by decide +kernel
theorem dX7_reheatsFor_31 : decode cX7_reheatsFor 31 = .ok (.iastore, 1) := by decide +kernel
theorem dX7_reheatsFor_32 : decode cX7_reheatsFor 32 = .ok (.aload_n 0, 1) := by decide +kernel
theorem dX7_reheatsFor_33 : decode cX7_reheatsFor 33 = .ok (.iload_n 1, 1) := by decide +kernel
theorem dX7_reheatsFor_34 : decode cX7_reheatsFor 34 = .ok (.iconst 0, 1) := by decide +kernel
theorem dX7_reheatsFor_35 : decode cX7_reheatsFor 35 = .ok (.invokevirtual 221, 3) := by decide +kernel
theorem dX7_reheatsFor_38 : decode cX7_reheatsFor 38 = .ok (.istore 7, 2) := by decide +kernel
theorem dX7_reheatsFor_40 : decode cX7_reheatsFor 40 = .ok (.aload_n 0, 1) := by decide +kernel
theorem dX7_reheatsFor_41 : decode cX7_reheatsFor 41 = .ok (.iload_n 1, 1) := by decide +kernel
theorem dX7_reheatsFor_42 : decode cX7_reheatsFor 42 = .ok (.iconst 1, 1) := by decide +kernel
theorem dX7_reheatsFor_43 : decode cX7_reheatsFor 43 = .ok (.invokevirtual 221, 3) := by decide +kernel
theorem dX7_reheatsFor_46 : decode cX7_reheatsFor 46 = .ok (.istore 8, 2) := by decide +kernel
theorem dX7_reheatsFor_48 : decode cX7_reheatsFor 48 = .ok (.iload_n 3, 1) := by decide +kernel
theorem dX7_reheatsFor_49 : decode cX7_reheatsFor 49 = .ok (.iconst (-1), 1) := by decide +kernel
theorem dX7_reheatsFor_50 : decode cX7_reheatsFor 50 = .ok (.if_icmp .eq 24, 3) := by decide +kernel
theorem dX7_reheatsFor_53 : decode cX7_reheatsFor 53 = .ok (.iload 7, 2) := by decide +kernel
theorem dX7_reheatsFor_55 : decode cX7_reheatsFor 55 = .ok (.iload 4, 2) := by decide +kernel
theorem dX7_reheatsFor_57 : decode cX7_reheatsFor 57 = .ok (.if_icmp .gt 17, 3) := by decide +kernel
theorem dX7_reheatsFor_60 : decode cX7_reheatsFor 60 = .ok (.iload 7, 2) := by decide +kernel
theorem dX7_reheatsFor_62 : decode cX7_reheatsFor 62 = .ok (.iload 4, 2) := by decide +kernel
theorem dX7_reheatsFor_64 : decode cX7_reheatsFor 64 = .ok (.if_icmp .ne 21, 3) := by decide +kernel
theorem dX7_reheatsFor_67 : decode cX7_reheatsFor 67 = .ok (.iload 8, 2) := by decide +kernel
theorem dX7_reheatsFor_69 : decode cX7_reheatsFor 69 = .ok (.iload 5, 2) := by decide +kernel
theorem dX7_reheatsFor_71 : decode cX7_reheatsFor 71 = .ok (.if_icmp .ge 14, 3) := by decide +kernel
theorem dX7_reheatsFor_74 : decode cX7_reheatsFor 74 = .ok (.iload 6, 2) := by decide +kernel
theorem dX7_reheatsFor_76 : decode cX7_reheatsFor 76 = .ok (.istore_n 3, 1) := by decide +kernel
theorem dX7_reheatsFor_77 : decode cX7_reheatsFor 77 = .ok (.iload 7, 2) := by decide +kernel
theorem dX7_reheatsFor_79 : decode cX7_reheatsFor 79 = .ok (.istore 4, 2) := by decide +kernel
theorem dX7_reheatsFor_81 : decode cX7_reheatsFor 81 = .ok (.iload 8, 2) := by decide +kernel
theorem dX7_reheatsFor_83 : decode cX7_reheatsFor 83 = .ok (.istore 5, 2) := by decide +kernel
theorem dX7_reheatsFor_85 : decode cX7_reheatsFor 85 = .ok (.iinc 6 1, 3) := by decide +kernel
theorem dX7_reheatsFor_88 : decode cX7_reheatsFor 88 = .ok (.goto (-70), 3) := by decide +kernel
theorem dX7_reheatsFor_91 : decode cX7_reheatsFor 91 = .ok (.aload_n 0, 1) := by decide +kernel
theorem dX7_reheatsFor_92 : decode cX7_reheatsFor 92 = .ok (.getfield 7, 3) := by decide +kernel
theorem dX7_reheatsFor_95 : decode cX7_reheatsFor 95 = .ok (.iconst 2, 1) := by decide +kernel
theorem dX7_reheatsFor_96 : decode cX7_reheatsFor 96 = .ok (.iload_n 2, 1) := by decide +kernel
theorem dX7_reheatsFor_97 : decode cX7_reheatsFor 97 = .ok (.iastore, 1) := by decide +kernel
theorem dX7_reheatsFor_98 : decode cX7_reheatsFor 98 = .ok (.iload_n 3, 1) := by decide +kernel
theorem dX7_reheatsFor_99 : decode cX7_reheatsFor 99 = .ok (.ireturn, 1) := by decide +kernel
theorem dX7_bestReheats_0 : decode cX7_bestReheats 0 = .ok (.aload_n 0, 1) := by decide +kernel
theorem dX7_bestReheats_1 : decode cX7_bestReheats 1 = .ok (.iconst 0, 1) := by decide +kernel
theorem dX7_bestReheats_2 : decode cX7_bestReheats 2 = .ok (.putfield 25, 3) := by decide +kernel
theorem dX7_bestReheats_5 : decode cX7_bestReheats 5 = .ok (.iload_n 1, 1) := by decide +kernel
theorem dX7_bestReheats_6 : decode cX7_bestReheats 6 = .ok (.iconst 1, 1) := by decide +kernel
theorem dX7_bestReheats_7 : decode cX7_bestReheats 7 = .ok (.bipush 120, 2) := by decide +kernel
theorem dX7_bestReheats_9 : decode cX7_bestReheats 9 = .ok (.invokestatic 29, 3) := by decide +kernel
theorem dX7_bestReheats_12 : decode cX7_bestReheats 12 = .ok (.ifCond .eq 11, 3) := by decide +kernel
theorem dX7_bestReheats_15 : decode cX7_bestReheats 15 = .ok (.aload_n 0, 1) := by decide +kernel
theorem dX7_bestReheats_16 : decode cX7_bestReheats 16 = .ok (.iload_n 1, 1) := by decide +kernel
theorem dX7_bestReheats_17 : decode cX7_bestReheats 17 = .ok (.invokevirtual 231, 3) := by decide +kernel
theorem dX7_bestReheats_20 : decode cX7_bestReheats 20 = .ok (.goto 8, 3) := by decide +kernel
theorem dX7_bestReheats_23 : decode cX7_bestReheats 23 = .ok (.aload_n 0, 1) := by decide +kernel
theorem dX7_bestReheats_24 : decode cX7_bestReheats 24 = .ok (.iconst 1, 1) := by decide +kernel
theorem dX7_bestReheats_25 : decode cX7_bestReheats 25 = .ok (.invokevirtual 138, 3) := by decide +kernel
theorem dX7_bestReheats_28 : decode cX7_bestReheats 28 = .ok (.ireturn, 1) := by decide +kernel
theorem dX7_saved_0 : decode cX7_saved 0 = .ok (.aload_n 0, 1) := by decide +kernel
theorem dX7_saved_1 : decode cX7_saved 1 = .ok (.iconst 0, 1) := by decide +kernel
theorem dX7_saved_2 : decode cX7_saved 2 = .ok (.putfield 25, 3) := by decide +kernel
theorem dX7_saved_5 : decode cX7_saved 5 = .ok (.aload_n 0, 1) := by decide +kernel
theorem dX7_saved_6 : decode cX7_saved 6 = .ok (.getfield 7, 3) := by decide +kernel
theorem dX7_saved_9 : decode cX7_saved 9 = .ok (.bipush 7, 2) := by decide +kernel
theorem dX7_saved_11 : decode cX7_saved 11 = .ok (.iaload, 1) := by decide +kernel
theorem dX7_saved_12 : decode cX7_saved 12 = .ok (.aload_n 0, 1) := by decide +kernel
theorem dX7_saved_13 : decode cX7_saved 13 = .ok (.getfield 7, 3) := by decide +kernel
theorem dX7_saved_16 : decode cX7_saved 16 = .ok (.bipush 8, 2) := by decide +kernel
theorem dX7_saved_18 : decode cX7_saved 18 = .ok (.iaload, 1) := by decide +kernel
theorem dX7_saved_19 : decode cX7_saved 19 = .ok (.iadd, 1) := by decide +kernel
theorem dX7_saved_20 : decode cX7_saved 20 = .ok (.istore_n 1, 1) := by decide +kernel
theorem dX7_saved_21 : decode cX7_saved 21 = .ok (.iload_n 1, 1) := by decide +kernel
theorem dX7_saved_22 : decode cX7_saved 22 = .ok (.ifCond .ne 7, 3) := by decide +kernel
theorem dX7_saved_25 : decode cX7_saved 25 = .ok (.dconst 1, 1) := by decide +kernel
theorem dX7_saved_26 : decode cX7_saved 26 = .ok (.goto 14, 3) := by decide +kernel
theorem dX7_saved_29 : decode cX7_saved 29 = .ok (.aload_n 0, 1) := by decide +kernel
theorem dX7_saved_30 : decode cX7_saved 30 = .ok (.getfield 7, 3) := by decide +kernel
theorem dX7_saved_33 : decode cX7_saved 33 = .ok (.bipush 7, 2) := by decide +kernel
theorem dX7_saved_35 : decode cX7_saved 35 = .ok (.iaload, 1) := by decide +kernel
theorem dX7_saved_36 : decode cX7_saved 36 = .ok (.i2d, 1) := by decide +kernel
theorem dX7_saved_37 : decode cX7_saved 37 = .ok (.iload_n 1, 1) := by decide +kernel
theorem dX7_saved_38 : decode cX7_saved 38 = .ok (.i2d, 1) := by decide +kernel
theorem dX7_saved_39 : decode cX7_saved 39 = .ok (.ddiv, 1) := by decide +kernel
theorem dX7_saved_40 : decode cX7_saved 40 = .ok (.dreturn, 1) := by decide +kernel
theorem dX7_hashes_0 : decode cX7_hashes 0 = .ok (.aload_n 0, 1) := by decide +kernel
theorem dX7_hashes_1 : decode cX7_hashes 1 = .ok (.ldc2_w 234, 3) := by decide +kernel
theorem dX7_hashes_4 : decode cX7_hashes 4 = .ok (.aload_n 0, 1) := by decide +kernel
theorem dX7_hashes_5 : decode cX7_hashes 5 = .ok (.getfield 236, 3) := by decide +kernel
theorem dX7_hashes_8 : decode cX7_hashes 8 = .ok (.lmul, 1) := by decide +kernel
theorem dX7_hashes_9 : decode cX7_hashes 9 = .ok (.lload_n 1, 1) := by decide +kernel
theorem dX7_hashes_10 : decode cX7_hashes 10 = .ok (.ladd, 1) := by decide +kernel
theorem dX7_hashes_11 : decode cX7_hashes 11 = .ok (.putfield 236, 3) := by decide +kernel
theorem dX7_hashes_14 : decode cX7_hashes 14 = .ok (.return_, 1) := by decide +kernel
theorem dX7_hashesShop_0 : decode cX7_hashesShop 0 = .ok (.iconst 0, 1) := by decide +kernel
theorem dX7_hashesShop_1 : decode cX7_hashesShop 1 = .ok (.istore_n 1, 1) := by decide +kernel
theorem dX7_hashesShop_2 : decode cX7_hashesShop 2 = .ok (.iload_n 1, 1) := by decide +kernel
theorem dX7_hashesShop_3 : decode cX7_hashesShop 3 = .ok (.iconst 4, 1) := by decide +kernel
theorem dX7_hashesShop_4 : decode cX7_hashesShop 4 = .ok (.if_icmp .ge 34, 3) := by decide +kernel
theorem dX7_hashesShop_7 : decode cX7_hashesShop 7 = .ok (.iconst 0, 1) := by decide +kernel
theorem dX7_hashesShop_8 : decode cX7_hashesShop 8 = .ok (.istore_n 2, 1) := by decide +kernel
theorem dX7_hashesShop_9 : decode cX7_hashesShop 9 = .ok (.iload_n 2, 1) := by decide +kernel
theorem dX7_hashesShop_10 : decode cX7_hashesShop 10 = .ok (.bipush 7, 2) := by decide +kernel
theorem dX7_hashesShop_12 : decode cX7_hashesShop 12 = .ok (.if_icmp .ge 20, 3) := by decide +kernel
theorem dX7_hashesShop_15 : decode cX7_hashesShop 15 = .ok (.aload_n 0, 1) := by decide +kernel
theorem dX7_hashesShop_16 : decode cX7_hashesShop 16 = .ok (.aload_n 0, 1) := by decide +kernel
theorem dX7_hashesShop_17 : decode cX7_hashesShop 17 = .ok (.iload_n 1, 1) := by decide +kernel
theorem dX7_hashesShop_18 : decode cX7_hashesShop 18 = .ok (.iload_n 2, 1) := by decide +kernel
theorem dX7_hashesShop_19 : decode cX7_hashesShop 19 = .ok (.invokevirtual 191, 3) := by decide +kernel
theorem dX7_hashesShop_22 : decode cX7_hashesShop 22 = .ok (.i2l, 1) := by decide +kernel
theorem dX7_hashesShop_23 : decode cX7_hashesShop 23 = .ok (.invokevirtual 240, 3) := by decide +kernel
theorem dX7_hashesShop_26 : decode cX7_hashesShop 26 = .ok (.iinc 2 1, 3) := by decide +kernel
theorem dX7_hashesShop_29 : decode cX7_hashesShop 29 = .ok (.goto (-20), 3) := by decide +kernel
theorem dX7_hashesShop_32 : decode cX7_hashesShop 32 = .ok (.iinc 1 1, 3) := by decide +kernel
theorem dX7_hashesShop_35 : decode cX7_hashesShop 35 = .ok (.goto (-33), 3) := by decide +kernel
theorem dX7_hashesShop_38 : decode cX7_hashesShop 38 = .ok (.iconst 0, 1) := by decide +kernel
theorem dX7_hashesShop_39 : decode cX7_hashesShop 39 = .ok (.istore_n 1, 1) := by decide +kernel
theorem dX7_hashesShop_40 : decode cX7_hashesShop 40 = .ok (.iload_n 1, 1) := by decide +kernel
theorem dX7_hashesShop_41 : decode cX7_hashesShop 41 = .ok (.iconst 5, 1) := by decide +kernel
theorem dX7_hashesShop_42 : decode cX7_hashesShop 42 = .ok (.if_icmp .ge 34, 3) := by decide +kernel
theorem dX7_hashesShop_45 : decode cX7_hashesShop 45 = .ok (.iconst 0, 1) := by decide +kernel
theorem dX7_hashesShop_46 : decode cX7_hashesShop 46 = .ok (.istore_n 2, 1) := by decide +kernel
theorem dX7_hashesShop_47 : decode cX7_hashesShop 47 = .ok (.iload_n 2, 1) := by decide +kernel
theorem dX7_hashesShop_48 : decode cX7_hashesShop 48 = .ok (.bipush 6, 2) := by decide +kernel
theorem dX7_hashesShop_50 : decode cX7_hashesShop 50 = .ok (.if_icmp .ge 20, 3) := by decide +kernel
theorem dX7_hashesShop_53 : decode cX7_hashesShop 53 = .ok (.aload_n 0, 1) := by decide +kernel
theorem dX7_hashesShop_54 : decode cX7_hashesShop 54 = .ok (.aload_n 0, 1) := by decide +kernel
theorem dX7_hashesShop_55 : decode cX7_hashesShop 55 = .ok (.iload_n 1, 1) := by decide +kernel
theorem dX7_hashesShop_56 : decode cX7_hashesShop 56 = .ok (.iload_n 2, 1) := by decide +kernel
theorem dX7_hashesShop_57 : decode cX7_hashesShop 57 = .ok (.invokevirtual 194, 3) := by decide +kernel
theorem dX7_hashesShop_60 : decode cX7_hashesShop 60 = .ok (.i2l, 1) := by decide +kernel
theorem dX7_hashesShop_61 : decode cX7_hashesShop 61 = .ok (.invokevirtual 240, 3) := by decide +kernel
theorem dX7_hashesShop_64 : decode cX7_hashesShop 64 = .ok (.iinc 2 1, 3) := by decide +kernel
theorem dX7_hashesShop_67 : decode cX7_hashesShop 67 = .ok (.goto (-20), 3) := by decide +kernel
theorem dX7_hashesShop_70 : decode cX7_hashesShop 70 = .ok (.iinc 1 1, 3) := by decide +kernel
theorem dX7_hashesShop_73 : decode cX7_hashesShop 73 = .ok (.goto (-33), 3) := by decide +kernel
theorem dX7_hashesShop_76 : decode cX7_hashesShop 76 = .ok (.iconst 0, 1) := by decide +kernel
theorem dX7_hashesShop_77 : decode cX7_hashesShop 77 = .ok (.istore_n 1, 1) := by decide +kernel
theorem dX7_hashesShop_78 : decode cX7_hashesShop 78 = .ok (.iload_n 1, 1) := by decide +kernel
theorem dX7_hashesShop_79 : decode cX7_hashesShop 79 = .ok (.bipush 6, 2) := by decide +kernel
theorem dX7_hashesShop_81 : decode cX7_hashesShop 81 = .ok (.if_icmp .gt 33, 3) := by decide +kernel
theorem dX7_hashesShop_84 : decode cX7_hashesShop 84 = .ok (.iconst 0, 1) := by decide +kernel
theorem dX7_hashesShop_85 : decode cX7_hashesShop 85 = .ok (.istore_n 2, 1) := by decide +kernel
theorem dX7_hashesShop_86 : decode cX7_hashesShop 86 = .ok (.iload_n 2, 1) := by decide +kernel
theorem dX7_hashesShop_87 : decode cX7_hashesShop 87 = .ok (.iconst 4, 1) := by decide +kernel
theorem dX7_hashesShop_88 : decode cX7_hashesShop 88 = .ok (.if_icmp .ge 20, 3) := by decide +kernel
theorem dX7_hashesShop_91 : decode cX7_hashesShop 91 = .ok (.aload_n 0, 1) := by decide +kernel
theorem dX7_hashesShop_92 : decode cX7_hashesShop 92 = .ok (.aload_n 0, 1) := by decide +kernel
theorem dX7_hashesShop_93 : decode cX7_hashesShop 93 = .ok (.iload_n 1, 1) := by decide +kernel
theorem dX7_hashesShop_94 : decode cX7_hashesShop 94 = .ok (.iload_n 2, 1) := by decide +kernel
theorem dX7_hashesShop_95 : decode cX7_hashesShop 95 = .ok (.invokevirtual 203, 3) := by decide +kernel
theorem dX7_hashesShop_98 : decode cX7_hashesShop 98 = .ok (.i2l, 1) := by decide +kernel
theorem dX7_hashesShop_99 : decode cX7_hashesShop 99 = .ok (.invokevirtual 240, 3) := by decide +kernel
theorem dX7_hashesShop_102 : decode cX7_hashesShop 102 = .ok (.iinc 2 1, 3) := by decide +kernel
theorem dX7_hashesShop_105 : decode cX7_hashesShop 105 = .ok (.goto (-19), 3) := by decide +kernel
theorem dX7_hashesShop_108 : decode cX7_hashesShop 108 = .ok (.iinc 1 1, 3) := by decide +kernel
theorem dX7_hashesShop_111 : decode cX7_hashesShop 111 = .ok (.goto (-33), 3) := by decide +kernel
theorem dX7_hashesShop_114 : decode cX7_hashesShop 114 = .ok (.return_, 1) := by decide +kernel
theorem dX7_digest_0 : decode cX7_digest 0 = .ok (.aload_n 0, 1) := by decide +kernel
theorem dX7_digest_1 : decode cX7_digest 1 = .ok (.ldc2_w 244, 3) := by decide +kernel
theorem dX7_digest_4 : decode cX7_digest 4 = .ok (.putfield 236, 3) := by decide +kernel
theorem dX7_digest_7 : decode cX7_digest 7 = .ok (.iconst 0, 1) := by decide +kernel
theorem dX7_digest_8 : decode cX7_digest 8 = .ok (.istore_n 1, 1) := by decide +kernel
theorem dX7_digest_9 : decode cX7_digest 9 = .ok (.iload_n 1, 1) := by decide +kernel
theorem dX7_digest_10 : decode cX7_digest 10 = .ok (.bipush 12, 2) := by decide +kernel
theorem dX7_digest_12 : decode cX7_digest 12 = .ok (.if_icmp .ge 19, 3) := by decide +kernel
theorem dX7_digest_15 : decode cX7_digest 15 = .ok (.aload_n 0, 1) := by decide +kernel
theorem dX7_digest_16 : decode cX7_digest 16 = .ok (.aload_n 0, 1) := by decide +kernel
theorem dX7_digest_17 : decode cX7_digest 17 = .ok (.iload_n 1, 1) := by decide +kernel
theorem dX7_digest_18 : decode cX7_digest 18 = .ok (.invokevirtual 212, 3) := by decide +kernel
theorem dX7_digest_21 : decode cX7_digest 21 = .ok (.i2l, 1) := by decide +kernel
theorem dX7_digest_22 : decode cX7_digest 22 = .ok (.invokevirtual 240, 3) := by decide +kernel
theorem dX7_digest_25 : decode cX7_digest 25 = .ok (.iinc 1 1, 3) := by decide +kernel
theorem dX7_digest_28 : decode cX7_digest 28 = .ok (.goto (-19), 3) := by decide +kernel
theorem dX7_digest_31 : decode cX7_digest 31 = .ok (.iconst 0, 1) := by decide +kernel
theorem dX7_digest_32 : decode cX7_digest 32 = .ok (.istore_n 1, 1) := by decide +kernel
theorem dX7_digest_33 : decode cX7_digest 33 = .ok (.iload_n 1, 1) := by decide +kernel
theorem dX7_digest_34 : decode cX7_digest 34 = .ok (.iconst 4, 1) := by decide +kernel
theorem dX7_digest_35 : decode cX7_digest 35 = .ok (.if_icmp .ge 20, 3) := by decide +kernel
theorem dX7_digest_38 : decode cX7_digest 38 = .ok (.aload_n 0, 1) := by decide +kernel
theorem dX7_digest_39 : decode cX7_digest 39 = .ok (.aload_n 0, 1) := by decide +kernel
theorem dX7_digest_40 : decode cX7_digest 40 = .ok (.getfield 7, 3) := by decide +kernel
theorem dX7_digest_43 : decode cX7_digest 43 = .ok (.iload_n 1, 1) := by decide +kernel
theorem dX7_digest_44 : decode cX7_digest 44 = .ok (.iaload, 1) := by decide +kernel
theorem dX7_digest_45 : decode cX7_digest 45 = .ok (.i2l, 1) := by decide +kernel
theorem dX7_digest_46 : decode cX7_digest 46 = .ok (.invokevirtual 240, 3) := by decide +kernel
theorem dX7_digest_49 : decode cX7_digest 49 = .ok (.iinc 1 1, 3) := by decide +kernel
theorem dX7_digest_52 : decode cX7_digest 52 = .ok (.goto (-19), 3) := by decide +kernel
theorem dX7_digest_55 : decode cX7_digest 55 = .ok (.aload_n 0, 1) := by decide +kernel
theorem dX7_digest_56 : decode cX7_digest 56 = .ok (.invokevirtual 246, 3) := by decide +kernel
theorem dX7_digest_59 : decode cX7_digest 59 = .ok (.iconst 0, 1) := by decide +kernel
theorem dX7_digest_60 : decode cX7_digest 60 = .ok (.istore_n 1, 1) := by decide +kernel
theorem dX7_digest_61 : decode cX7_digest 61 = .ok (.iload_n 1, 1) := by decide +kernel
theorem dX7_digest_62 : decode cX7_digest 62 = .ok (.aload_n 0, 1) := by decide +kernel
theorem dX7_digest_63 : decode cX7_digest 63 = .ok (.getfield 7, 3) := by decide +kernel
theorem dX7_digest_66 : decode cX7_digest 66 = .ok (.iconst 5, 1) := by decide +kernel
theorem dX7_digest_67 : decode cX7_digest 67 = .ok (.iaload, 1) := by decide +kernel
theorem dX7_digest_68 : decode cX7_digest 68 = .ok (.if_icmp .ge 66, 3) := by decide +kernel
theorem dX7_digest_71 : decode cX7_digest 71 = .ok (.iconst 0, 1) := by decide +kernel
theorem dX7_digest_72 : decode cX7_digest 72 = .ok (.istore_n 2, 1) := by decide +kernel
theorem dX7_digest_73 : decode cX7_digest 73 = .ok (.iload_n 2, 1) := by decide +kernel
theorem dX7_digest_74 : decode cX7_digest 74 = .ok (.bipush 8, 2) := by decide +kernel
theorem dX7_digest_76 : decode cX7_digest 76 = .ok (.if_icmp .ge 20, 3) := by decide +kernel
theorem dX7_digest_79 : decode cX7_digest 79 = .ok (.aload_n 0, 1) := by decide +kernel
theorem dX7_digest_80 : decode cX7_digest 80 = .ok (.aload_n 0, 1) := by decide +kernel
theorem dX7_digest_81 : decode cX7_digest 81 = .ok (.iload_n 1, 1) := by decide +kernel
theorem dX7_digest_82 : decode cX7_digest 82 = .ok (.iload_n 2, 1) := by decide +kernel
theorem dX7_digest_83 : decode cX7_digest 83 = .ok (.invokevirtual 200, 3) := by decide +kernel
theorem dX7_digest_86 : decode cX7_digest 86 = .ok (.i2l, 1) := by decide +kernel
theorem dX7_digest_87 : decode cX7_digest 87 = .ok (.invokevirtual 240, 3) := by decide +kernel
theorem dX7_digest_90 : decode cX7_digest 90 = .ok (.iinc 2 1, 3) := by decide +kernel
theorem dX7_digest_93 : decode cX7_digest 93 = .ok (.goto (-20), 3) := by decide +kernel
theorem dX7_digest_96 : decode cX7_digest 96 = .ok (.aload_n 0, 1) := by decide +kernel
theorem dX7_digest_97 : decode cX7_digest 97 = .ok (.aload_n 0, 1) := by decide +kernel
theorem dX7_digest_98 : decode cX7_digest 98 = .ok (.iload_n 1, 1) := by decide +kernel
theorem dX7_digest_99 : decode cX7_digest 99 = .ok (.invokevirtual 83, 3) := by decide +kernel
theorem dX7_digest_102 : decode cX7_digest 102 = .ok (.iconst 0, 1) := by decide +kernel
theorem dX7_digest_103 : decode cX7_digest 103 = .ok (.invokevirtual 47, 3) := by decide +kernel
theorem dX7_digest_106 : decode cX7_digest 106 = .ok (.istore_n 2, 1) := by decide +kernel
theorem dX7_digest_107 : decode cX7_digest 107 = .ok (.aload_n 0, 1) := by decide +kernel
theorem dX7_digest_108 : decode cX7_digest 108 = .ok (.aload_n 0, 1) := by decide +kernel
theorem dX7_digest_109 : decode cX7_digest 109 = .ok (.iload_n 2, 1) := by decide +kernel
theorem dX7_digest_110 : decode cX7_digest 110 = .ok (.iconst 0, 1) := by decide +kernel
theorem dX7_digest_111 : decode cX7_digest 111 = .ok (.invokevirtual 224, 3) := by decide +kernel
theorem dX7_digest_114 : decode cX7_digest 114 = .ok (.i2l, 1) := by decide +kernel
theorem dX7_digest_115 : decode cX7_digest 115 = .ok (.invokevirtual 240, 3) := by decide +kernel
theorem dX7_digest_118 : decode cX7_digest 118 = .ok (.aload_n 0, 1) := by decide +kernel
theorem dX7_digest_119 : decode cX7_digest 119 = .ok (.aload_n 0, 1) := by decide +kernel
theorem dX7_digest_120 : decode cX7_digest 120 = .ok (.iload_n 2, 1) := by decide +kernel
theorem dX7_digest_121 : decode cX7_digest 121 = .ok (.invokevirtual 228, 3) := by decide +kernel
theorem dX7_digest_124 : decode cX7_digest 124 = .ok (.i2l, 1) := by decide +kernel
theorem dX7_digest_125 : decode cX7_digest 125 = .ok (.invokevirtual 240, 3) := by decide +kernel
theorem dX7_digest_128 : decode cX7_digest 128 = .ok (.iinc 1 1, 3) := by decide +kernel
theorem dX7_digest_131 : decode cX7_digest 131 = .ok (.goto (-70), 3) := by decide +kernel
theorem dX7_digest_134 : decode cX7_digest 134 = .ok (.iconst 0, 1) := by decide +kernel
theorem dX7_digest_135 : decode cX7_digest 135 = .ok (.istore_n 1, 1) := by decide +kernel
theorem dX7_digest_136 : decode cX7_digest 136 = .ok (.iload_n 1, 1) := by decide +kernel
theorem dX7_digest_137 : decode cX7_digest 137 = .ok (.iconst 5, 1) := by decide +kernel
theorem dX7_digest_138 : decode cX7_digest 138 = .ok (.if_icmp .ge 21, 3) := by decide +kernel
theorem dX7_digest_141 : decode cX7_digest 141 = .ok (.aload_n 0, 1) := by decide +kernel
theorem dX7_digest_142 : decode cX7_digest 142 = .ok (.aload_n 0, 1) := by decide +kernel
theorem dX7_digest_143 : decode cX7_digest 143 = .ok (.bipush 30, 2) := by decide +kernel
theorem dX7_digest_145 : decode cX7_digest 145 = .ok (.iload_n 1, 1) := by decide +kernel
theorem dX7_digest_146 : decode cX7_digest 146 = .ok (.invokevirtual 221, 3) := by decide +kernel
theorem dX7_digest_149 : decode cX7_digest 149 = .ok (.i2l, 1) := by decide +kernel
theorem dX7_digest_150 : decode cX7_digest 150 = .ok (.invokevirtual 240, 3) := by decide +kernel
theorem dX7_digest_153 : decode cX7_digest 153 = .ok (.iinc 1 1, 3) := by decide +kernel
theorem dX7_digest_156 : decode cX7_digest 156 = .ok (.goto (-20), 3) := by decide +kernel
theorem dX7_digest_159 : decode cX7_digest 159 = .ok (.aload_n 0, 1) := by decide +kernel
theorem dX7_digest_160 : decode cX7_digest 160 = .ok (.aload_n 0, 1) := by decide +kernel
theorem dX7_digest_161 : decode cX7_digest 161 = .ok (.bipush 40, 2) := by decide +kernel
theorem dX7_digest_163 : decode cX7_digest 163 = .ok (.invokevirtual 231, 3) := by decide +kernel
theorem dX7_digest_166 : decode cX7_digest 166 = .ok (.i2l, 1) := by decide +kernel
theorem dX7_digest_167 : decode cX7_digest 167 = .ok (.invokevirtual 240, 3) := by decide +kernel
theorem dX7_digest_170 : decode cX7_digest 170 = .ok (.aload_n 0, 1) := by decide +kernel
theorem dX7_digest_171 : decode cX7_digest 171 = .ok (.aload_n 0, 1) := by decide +kernel
theorem dX7_digest_172 : decode cX7_digest 172 = .ok (.invokevirtual 249, 3) := by decide +kernel
theorem dX7_digest_175 : decode cX7_digest 175 = .ok (.invokestatic 252, 3) := by decide +kernel
theorem dX7_digest_178 : decode cX7_digest 178 = .ok (.invokevirtual 240, 3) := by decide +kernel
theorem dX7_digest_181 : decode cX7_digest 181 = .ok (.aload_n 0, 1) := by decide +kernel
theorem dX7_digest_182 : decode cX7_digest 182 = .ok (.aload_n 0, 1) := by decide +kernel
theorem dX7_digest_183 : decode cX7_digest 183 = .ok (.getfield 157, 3) := by decide +kernel
theorem dX7_digest_186 : decode cX7_digest 186 = .ok (.i2l, 1) := by decide +kernel
theorem dX7_digest_187 : decode cX7_digest 187 = .ok (.invokevirtual 240, 3) := by decide +kernel
theorem dX7_digest_190 : decode cX7_digest 190 = .ok (.iconst 0, 1) := by decide +kernel
theorem dX7_digest_191 : decode cX7_digest 191 = .ok (.istore_n 1, 1) := by decide +kernel
theorem dX7_digest_192 : decode cX7_digest 192 = .ok (.iload_n 1, 1) := by decide +kernel
theorem dX7_digest_193 : decode cX7_digest 193 = .ok (.aload_n 0, 1) := by decide +kernel
theorem dX7_digest_194 : decode cX7_digest 194 = .ok (.getfield 157, 3) := by decide +kernel
theorem dX7_digest_197 : decode cX7_digest 197 = .ok (.if_icmp .ge 20, 3) := by decide +kernel
theorem dX7_digest_200 : decode cX7_digest 200 = .ok (.aload_n 0, 1) := by decide +kernel
theorem dX7_digest_201 : decode cX7_digest 201 = .ok (.aload_n 0, 1) := by decide +kernel
theorem dX7_digest_202 : decode cX7_digest 202 = .ok (.getfield 19, 3) := by decide +kernel
theorem dX7_digest_205 : decode cX7_digest 205 = .ok (.iload_n 1, 1) := by decide +kernel
theorem dX7_digest_206 : decode cX7_digest 206 = .ok (.iaload, 1) := by decide +kernel
theorem dX7_digest_207 : decode cX7_digest 207 = .ok (.i2l, 1) := by decide +kernel
theorem dX7_digest_208 : decode cX7_digest 208 = .ok (.invokevirtual 240, 3) := by decide +kernel
theorem dX7_digest_211 : decode cX7_digest 211 = .ok (.iinc 1 1, 3) := by decide +kernel
theorem dX7_digest_214 : decode cX7_digest 214 = .ok (.goto (-22), 3) := by decide +kernel
theorem dX7_digest_217 : decode cX7_digest 217 = .ok (.aload_n 0, 1) := by decide +kernel
theorem dX7_digest_218 : decode cX7_digest 218 = .ok (.getfield 236, 3) := by decide +kernel
theorem dX7_digest_221 : decode cX7_digest 221 = .ok (.lreturn, 1) := by decide +kernel
end
section
theorem dL_stock_0 : decode cL_stock 0 = .ok (.aload_n 3, 1) := by decide +kernel
theorem dL_stock_1 : decode cL_stock 1 = .ok (.iconst 0, 1) := by decide +kernel
theorem dL_stock_2 : decode cL_stock 2 = .ok (.aload_n 0, 1) := by decide +kernel
theorem dL_stock_3 : decode cL_stock 3 = .ok (.iload_n 1, 1) := by decide +kernel
theorem dL_stock_4 : decode cL_stock 4 = .ok (.iload_n 2, 1) := by decide +kernel
theorem dL_stock_5 : decode cL_stock 5 = .ok (.invokevirtual 7, 3) := by decide +kernel
theorem dL_stock_8 : decode cL_stock 8 = .ok (.i2l, 1) := by decide +kernel
theorem dL_stock_9 : decode cL_stock 9 = .ok (.lastore, 1) := by decide +kernel
theorem dL_stock_10 : decode cL_stock 10 = .ok (.goto 15, 3) := by decide +kernel
theorem dL_stock_13 : decode cL_stock 13 = .ok (.astore 4, 2) := by decide +kernel
theorem dL_stock_15 : decode cL_stock 15 = .ok (.iconst 1, 1) := by decide +kernel
theorem dL_stock_16 : decode cL_stock 16 = .ok (.ireturn, 1) := by decide +kernel
theorem dL_stock_17 : decode cL_stock 17 = .ok (.astore 4, 2) := by decide +kernel
theorem dL_stock_19 : decode cL_stock 19 = .ok (.iconst 2, 1) := by decide +kernel
theorem dL_stock_20 : decode cL_stock 20 = .ok (.ireturn, 1) := by decide +kernel
theorem dL_stock_21 : decode cL_stock 21 = .ok (.astore 4, 2) := by decide +kernel
theorem dL_stock_23 : decode cL_stock 23 = .ok (.iconst 3, 1) := by decide +kernel
theorem dL_stock_24 : decode cL_stock 24 = .ok (.ireturn, 1) := by decide +kernel
theorem dL_stock_25 : decode cL_stock 25 = .ok (.iconst 0, 1) := by decide +kernel
theorem dL_stock_26 : decode cL_stock 26 = .ok (.ireturn, 1) := by decide +kernel
theorem dL_range_0 : decode cL_range 0 = .ok (.aload 4, 2) := by decide +kernel
theorem dL_range_2 : decode cL_range 2 = .ok (.iconst 0, 1) := by decide +kernel
theorem dL_range_3 : decode cL_range 3 = .ok (.aload_n 0, 1) := by decide +kernel
theorem dL_range_4 : decode cL_range 4 = .ok (.iload_n 1, 1) := by decide +kernel
theorem dL_range_5 : decode cL_range 5 = .ok (.iload_n 2, 1) := by decide +kernel
theorem dL_range_6 : decode cL_range 6 = .ok (.iload_n 3, 1) := by decide +kernel
theorem dL_range_7 : decode cL_range 7 = .ok (.invokevirtual 19, 3) := by decide +kernel
theorem dL_range_10 : decode cL_range 10 = .ok (.i2l, 1) := by decide +kernel
theorem dL_range_11 : decode cL_range 11 = .ok (.lastore, 1) := by decide +kernel
theorem dL_range_12 : decode cL_range 12 = .ok (.goto 11, 3) := by decide +kernel
theorem dL_range_15 : decode cL_range 15 = .ok (.astore 5, 2) := by decide +kernel
theorem dL_range_17 : decode cL_range 17 = .ok (.iconst 1, 1) := by decide +kernel
theorem dL_range_18 : decode cL_range 18 = .ok (.ireturn, 1) := by decide +kernel
theorem dL_range_19 : decode cL_range 19 = .ok (.astore 5, 2) := by decide +kernel
theorem dL_range_21 : decode cL_range 21 = .ok (.iconst 2, 1) := by decide +kernel
theorem dL_range_22 : decode cL_range 22 = .ok (.ireturn, 1) := by decide +kernel
theorem dL_range_23 : decode cL_range 23 = .ok (.iconst 0, 1) := by decide +kernel
theorem dL_range_24 : decode cL_range 24 = .ok (.ireturn, 1) := by decide +kernel
theorem dL_die_0 : decode cL_die 0 = .ok (.aload 4, 2) := by decide +kernel
theorem dL_die_2 : decode cL_die 2 = .ok (.iconst 0, 1) := by decide +kernel
theorem dL_die_3 : decode cL_die 3 = .ok (.aload_n 0, 1) := by decide +kernel
theorem dL_die_4 : decode cL_die 4 = .ok (.iload_n 1, 1) := by decide +kernel
theorem dL_die_5 : decode cL_die 5 = .ok (.iload_n 2, 1) := by decide +kernel
theorem dL_die_6 : decode cL_die 6 = .ok (.iload_n 3, 1) := by decide +kernel
theorem dL_die_7 : decode cL_die 7 = .ok (.invokevirtual 23, 3) := by decide +kernel
theorem dL_die_10 : decode cL_die 10 = .ok (.i2l, 1) := by decide +kernel
theorem dL_die_11 : decode cL_die 11 = .ok (.lastore, 1) := by decide +kernel
theorem dL_die_12 : decode cL_die 12 = .ok (.goto 15, 3) := by decide +kernel
theorem dL_die_15 : decode cL_die 15 = .ok (.astore 5, 2) := by decide +kernel
theorem dL_die_17 : decode cL_die 17 = .ok (.iconst 1, 1) := by decide +kernel
theorem dL_die_18 : decode cL_die 18 = .ok (.ireturn, 1) := by decide +kernel
theorem dL_die_19 : decode cL_die 19 = .ok (.astore 5, 2) := by decide +kernel
theorem dL_die_21 : decode cL_die 21 = .ok (.iconst 2, 1) := by decide +kernel
theorem dL_die_22 : decode cL_die 22 = .ok (.ireturn, 1) := by decide +kernel
theorem dL_die_23 : decode cL_die 23 = .ok (.astore 5, 2) := by decide +kernel
theorem dL_die_25 : decode cL_die 25 = .ok (.iconst 3, 1) := by decide +kernel
theorem dL_die_26 : decode cL_die 26 = .ok (.ireturn, 1) := by decide +kernel
theorem dL_die_27 : decode cL_die 27 = .ok (.iconst 0, 1) := by decide +kernel
theorem dL_die_28 : decode cL_die 28 = .ok (.ireturn, 1) := by decide +kernel
theorem dL_grind_0 : decode cL_grind 0 = .ok (.aload_n 2, 1) := by decide +kernel
theorem dL_grind_1 : decode cL_grind 1 = .ok (.iconst 0, 1) := by decide +kernel
theorem dL_grind_2 : decode cL_grind 2 = .ok (.aload_n 0, 1) := by decide +kernel
theorem dL_grind_3 : decode cL_grind 3 = .ok (.iload_n 1, 1) := by decide +kernel
theorem dL_grind_4 : decode cL_grind 4 = .ok (.invokevirtual 26, 3) := by decide +kernel
theorem dL_grind_7 : decode cL_grind 7 = .ok (.i2l, 1) := by decide +kernel
theorem dL_grind_8 : decode cL_grind 8 = .ok (.lastore, 1) := by decide +kernel
theorem dL_grind_9 : decode cL_grind 9 = .ok (.goto 9, 3) := by decide +kernel
theorem dL_grind_12 : decode cL_grind 12 = .ok (.astore_n 3, 1) := by decide +kernel
theorem dL_grind_13 : decode cL_grind 13 = .ok (.iconst 1, 1) := by decide +kernel
theorem dL_grind_14 : decode cL_grind 14 = .ok (.ireturn, 1) := by decide +kernel
theorem dL_grind_15 : decode cL_grind 15 = .ok (.astore_n 3, 1) := by decide +kernel
theorem dL_grind_16 : decode cL_grind 16 = .ok (.iconst 2, 1) := by decide +kernel
theorem dL_grind_17 : decode cL_grind 17 = .ok (.ireturn, 1) := by decide +kernel
theorem dL_grind_18 : decode cL_grind 18 = .ok (.iconst 0, 1) := by decide +kernel
theorem dL_grind_19 : decode cL_grind 19 = .ok (.ireturn, 1) := by decide +kernel
theorem dL_job_0 : decode cL_job 0 = .ok (.aload 6, 2) := by decide +kernel
theorem dL_job_2 : decode cL_job 2 = .ok (.iconst 0, 1) := by decide +kernel
theorem dL_job_3 : decode cL_job 3 = .ok (.aload_n 0, 1) := by decide +kernel
theorem dL_job_4 : decode cL_job 4 = .ok (.iload_n 1, 1) := by decide +kernel
theorem dL_job_5 : decode cL_job 5 = .ok (.iload_n 2, 1) := by decide +kernel
theorem dL_job_6 : decode cL_job 6 = .ok (.iload_n 3, 1) := by decide +kernel
theorem dL_job_7 : decode cL_job 7 = .ok (.iload 4, 2) := by decide +kernel
theorem dL_job_9 : decode cL_job 9 = .ok (.iload 5, 2) := by decide +kernel
theorem dL_job_11 : decode cL_job 11 = .ok (.invokevirtual 30, 3) := by decide +kernel
theorem dL_job_14 : decode cL_job 14 = .ok (.i2l, 1) := by decide +kernel
theorem dL_job_15 : decode cL_job 15 = .ok (.lastore, 1) := by decide +kernel
theorem dL_job_16 : decode cL_job 16 = .ok (.goto 15, 3) := by decide +kernel
theorem dL_job_19 : decode cL_job 19 = .ok (.astore 7, 2) := by decide +kernel
theorem dL_job_21 : decode cL_job 21 = .ok (.iconst 1, 1) := by decide +kernel
theorem dL_job_22 : decode cL_job 22 = .ok (.ireturn, 1) := by decide +kernel
theorem dL_job_23 : decode cL_job 23 = .ok (.astore 7, 2) := by decide +kernel
theorem dL_job_25 : decode cL_job 25 = .ok (.iconst 2, 1) := by decide +kernel
theorem dL_job_26 : decode cL_job 26 = .ok (.ireturn, 1) := by decide +kernel
theorem dL_job_27 : decode cL_job 27 = .ok (.astore 7, 2) := by decide +kernel
theorem dL_job_29 : decode cL_job 29 = .ok (.iconst 3, 1) := by decide +kernel
theorem dL_job_30 : decode cL_job 30 = .ok (.ireturn, 1) := by decide +kernel
theorem dL_job_31 : decode cL_job 31 = .ok (.iconst 0, 1) := by decide +kernel
theorem dL_job_32 : decode cL_job 32 = .ok (.ireturn, 1) := by decide +kernel
theorem dL_cancel_0 : decode cL_cancel 0 = .ok (.aload_n 2, 1) := by decide +kernel
theorem dL_cancel_1 : decode cL_cancel 1 = .ok (.iconst 0, 1) := by decide +kernel
theorem dL_cancel_2 : decode cL_cancel 2 = .ok (.aload_n 0, 1) := by decide +kernel
theorem dL_cancel_3 : decode cL_cancel 3 = .ok (.iload_n 1, 1) := by decide +kernel
theorem dL_cancel_4 : decode cL_cancel 4 = .ok (.invokevirtual 34, 3) := by decide +kernel
theorem dL_cancel_7 : decode cL_cancel 7 = .ok (.i2l, 1) := by decide +kernel
theorem dL_cancel_8 : decode cL_cancel 8 = .ok (.lastore, 1) := by decide +kernel
theorem dL_cancel_9 : decode cL_cancel 9 = .ok (.goto 6, 3) := by decide +kernel
theorem dL_cancel_12 : decode cL_cancel 12 = .ok (.astore_n 3, 1) := by decide +kernel
theorem dL_cancel_13 : decode cL_cancel 13 = .ok (.iconst 1, 1) := by decide +kernel
theorem dL_cancel_14 : decode cL_cancel 14 = .ok (.ireturn, 1) := by decide +kernel
theorem dL_cancel_15 : decode cL_cancel 15 = .ok (.iconst 0, 1) := by decide +kernel
theorem dL_cancel_16 : decode cL_cancel 16 = .ok (.ireturn, 1) := by decide +kernel
theorem dL_rush_0 : decode cL_rush 0 = .ok (.aload_n 3, 1) := by decide +kernel
theorem dL_rush_1 : decode cL_rush 1 = .ok (.iconst 0, 1) := by decide +kernel
theorem dL_rush_2 : decode cL_rush 2 = .ok (.aload_n 0, 1) := by decide +kernel
theorem dL_rush_3 : decode cL_rush 3 = .ok (.iload_n 1, 1) := by decide +kernel
theorem dL_rush_4 : decode cL_rush 4 = .ok (.iload_n 2, 1) := by decide +kernel
theorem dL_rush_5 : decode cL_rush 5 = .ok (.invokevirtual 37, 3) := by decide +kernel
theorem dL_rush_8 : decode cL_rush 8 = .ok (.i2l, 1) := by decide +kernel
theorem dL_rush_9 : decode cL_rush 9 = .ok (.lastore, 1) := by decide +kernel
theorem dL_rush_10 : decode cL_rush 10 = .ok (.goto 7, 3) := by decide +kernel
theorem dL_rush_13 : decode cL_rush 13 = .ok (.astore 4, 2) := by decide +kernel
theorem dL_rush_15 : decode cL_rush 15 = .ok (.iconst 1, 1) := by decide +kernel
theorem dL_rush_16 : decode cL_rush 16 = .ok (.ireturn, 1) := by decide +kernel
theorem dL_rush_17 : decode cL_rush 17 = .ok (.iconst 0, 1) := by decide +kernel
theorem dL_rush_18 : decode cL_rush 18 = .ok (.ireturn, 1) := by decide +kernel
theorem dL_set_0 : decode cL_set 0 = .ok (.aload_n 3, 1) := by decide +kernel
theorem dL_set_1 : decode cL_set 1 = .ok (.iconst 0, 1) := by decide +kernel
theorem dL_set_2 : decode cL_set 2 = .ok (.aload_n 0, 1) := by decide +kernel
theorem dL_set_3 : decode cL_set 3 = .ok (.iload_n 1, 1) := by decide +kernel
theorem dL_set_4 : decode cL_set 4 = .ok (.iload_n 2, 1) := by decide +kernel
theorem dL_set_5 : decode cL_set 5 = .ok (.invokevirtual 41, 3) := by decide +kernel
theorem dL_set_8 : decode cL_set 8 = .ok (.i2l, 1) := by decide +kernel
theorem dL_set_9 : decode cL_set 9 = .ok (.lastore, 1) := by decide +kernel
theorem dL_set_10 : decode cL_set 10 = .ok (.goto 11, 3) := by decide +kernel
theorem dL_set_13 : decode cL_set 13 = .ok (.astore 4, 2) := by decide +kernel
theorem dL_set_15 : decode cL_set 15 = .ok (.iconst 1, 1) := by decide +kernel
theorem dL_set_16 : decode cL_set 16 = .ok (.ireturn, 1) := by decide +kernel
theorem dL_set_17 : decode cL_set 17 = .ok (.astore 4, 2) := by decide +kernel
theorem dL_set_19 : decode cL_set 19 = .ok (.iconst 2, 1) := by decide +kernel
theorem dL_set_20 : decode cL_set 20 = .ok (.ireturn, 1) := by decide +kernel
theorem dL_set_21 : decode cL_set 21 = .ok (.iconst 0, 1) := by decide +kernel
theorem dL_set_22 : decode cL_set 22 = .ok (.ireturn, 1) := by decide +kernel
theorem dL_pass_0 : decode cL_pass 0 = .ok (.aload_n 2, 1) := by decide +kernel
theorem dL_pass_1 : decode cL_pass 1 = .ok (.iconst 0, 1) := by decide +kernel
theorem dL_pass_2 : decode cL_pass 2 = .ok (.aload_n 0, 1) := by decide +kernel
theorem dL_pass_3 : decode cL_pass 3 = .ok (.iload_n 1, 1) := by decide +kernel
theorem dL_pass_4 : decode cL_pass 4 = .ok (.invokevirtual 44, 3) := by decide +kernel
theorem dL_pass_7 : decode cL_pass 7 = .ok (.i2l, 1) := by decide +kernel
theorem dL_pass_8 : decode cL_pass 8 = .ok (.lastore, 1) := by decide +kernel
theorem dL_pass_9 : decode cL_pass 9 = .ok (.goto 9, 3) := by decide +kernel
theorem dL_pass_12 : decode cL_pass 12 = .ok (.astore_n 3, 1) := by decide +kernel
theorem dL_pass_13 : decode cL_pass 13 = .ok (.iconst 1, 1) := by decide +kernel
theorem dL_pass_14 : decode cL_pass 14 = .ok (.ireturn, 1) := by decide +kernel
theorem dL_pass_15 : decode cL_pass 15 = .ok (.astore_n 3, 1) := by decide +kernel
theorem dL_pass_16 : decode cL_pass 16 = .ok (.iconst 2, 1) := by decide +kernel
theorem dL_pass_17 : decode cL_pass 17 = .ok (.ireturn, 1) := by decide +kernel
theorem dL_pass_18 : decode cL_pass 18 = .ok (.iconst 0, 1) := by decide +kernel
theorem dL_pass_19 : decode cL_pass 19 = .ok (.ireturn, 1) := by decide +kernel
theorem dL_append_0 : decode cL_append 0 = .ok (.aload_n 2, 1) := by decide +kernel
theorem dL_append_1 : decode cL_append 1 = .ok (.iconst 0, 1) := by decide +kernel
theorem dL_append_2 : decode cL_append 2 = .ok (.aload_n 0, 1) := by decide +kernel
theorem dL_append_3 : decode cL_append 3 = .ok (.iload_n 1, 1) := by decide +kernel
theorem dL_append_4 : decode cL_append 4 = .ok (.invokevirtual 47, 3) := by decide +kernel
theorem dL_append_7 : decode cL_append 7 = .ok (.i2l, 1) := by decide +kernel
theorem dL_append_8 : decode cL_append 8 = .ok (.lastore, 1) := by decide +kernel
theorem dL_append_9 : decode cL_append 9 = .ok (.goto 9, 3) := by decide +kernel
theorem dL_append_12 : decode cL_append 12 = .ok (.astore_n 3, 1) := by decide +kernel
theorem dL_append_13 : decode cL_append 13 = .ok (.iconst 1, 1) := by decide +kernel
theorem dL_append_14 : decode cL_append 14 = .ok (.ireturn, 1) := by decide +kernel
theorem dL_append_15 : decode cL_append 15 = .ok (.astore_n 3, 1) := by decide +kernel
theorem dL_append_16 : decode cL_append 16 = .ok (.iconst 2, 1) := by decide +kernel
theorem dL_append_17 : decode cL_append 17 = .ok (.ireturn, 1) := by decide +kernel
theorem dL_append_18 : decode cL_append 18 = .ok (.iconst 0, 1) := by decide +kernel
theorem dL_append_19 : decode cL_append 19 = .ok (.ireturn, 1) := by decide +kernel
theorem dL_addAll_0 : decode cL_addAll 0 = .ok (.aload_n 1, 1) := by decide +kernel
theorem dL_addAll_1 : decode cL_addAll 1 = .ok (.iconst 0, 1) := by decide +kernel
theorem dL_addAll_2 : decode cL_addAll 2 = .ok (.aload_n 0, 1) := by decide +kernel
theorem dL_addAll_3 : decode cL_addAll 3 = .ok (.invokevirtual 50, 3) := by decide +kernel
theorem dL_addAll_6 : decode cL_addAll 6 = .ok (.i2l, 1) := by decide +kernel
theorem dL_addAll_7 : decode cL_addAll 7 = .ok (.lastore, 1) := by decide +kernel
theorem dL_addAll_8 : decode cL_addAll 8 = .ok (.goto 9, 3) := by decide +kernel
theorem dL_addAll_11 : decode cL_addAll 11 = .ok (.astore_n 2, 1) := by decide +kernel
theorem dL_addAll_12 : decode cL_addAll 12 = .ok (.iconst 1, 1) := by decide +kernel
theorem dL_addAll_13 : decode cL_addAll 13 = .ok (.ireturn, 1) := by decide +kernel
theorem dL_addAll_14 : decode cL_addAll 14 = .ok (.astore_n 2, 1) := by decide +kernel
theorem dL_addAll_15 : decode cL_addAll 15 = .ok (.iconst 2, 1) := by decide +kernel
theorem dL_addAll_16 : decode cL_addAll 16 = .ok (.ireturn, 1) := by decide +kernel
theorem dL_addAll_17 : decode cL_addAll 17 = .ok (.iconst 0, 1) := by decide +kernel
theorem dL_addAll_18 : decode cL_addAll 18 = .ok (.ireturn, 1) := by decide +kernel
theorem dL_undo_0 : decode cL_undo 0 = .ok (.aload_n 1, 1) := by decide +kernel
theorem dL_undo_1 : decode cL_undo 1 = .ok (.iconst 0, 1) := by decide +kernel
theorem dL_undo_2 : decode cL_undo 2 = .ok (.aload_n 0, 1) := by decide +kernel
theorem dL_undo_3 : decode cL_undo 3 = .ok (.invokevirtual 54, 3) := by decide +kernel
theorem dL_undo_6 : decode cL_undo 6 = .ok (.i2l, 1) := by decide +kernel
theorem dL_undo_7 : decode cL_undo 7 = .ok (.lastore, 1) := by decide +kernel
theorem dL_undo_8 : decode cL_undo 8 = .ok (.goto 6, 3) := by decide +kernel
theorem dL_undo_11 : decode cL_undo 11 = .ok (.astore_n 2, 1) := by decide +kernel
theorem dL_undo_12 : decode cL_undo 12 = .ok (.iconst 1, 1) := by decide +kernel
theorem dL_undo_13 : decode cL_undo 13 = .ok (.ireturn, 1) := by decide +kernel
theorem dL_undo_14 : decode cL_undo 14 = .ok (.iconst 0, 1) := by decide +kernel
theorem dL_undo_15 : decode cL_undo 15 = .ok (.ireturn, 1) := by decide +kernel
theorem dL_heat_0 : decode cL_heat 0 = .ok (.aload_n 3, 1) := by decide +kernel
theorem dL_heat_1 : decode cL_heat 1 = .ok (.iconst 0, 1) := by decide +kernel
theorem dL_heat_2 : decode cL_heat 2 = .ok (.aload_n 0, 1) := by decide +kernel
theorem dL_heat_3 : decode cL_heat 3 = .ok (.iload_n 1, 1) := by decide +kernel
theorem dL_heat_4 : decode cL_heat 4 = .ok (.iload_n 2, 1) := by decide +kernel
theorem dL_heat_5 : decode cL_heat 5 = .ok (.invokevirtual 57, 3) := by decide +kernel
theorem dL_heat_8 : decode cL_heat 8 = .ok (.i2l, 1) := by decide +kernel
theorem dL_heat_9 : decode cL_heat 9 = .ok (.lastore, 1) := by decide +kernel
theorem dL_heat_10 : decode cL_heat 10 = .ok (.goto 11, 3) := by decide +kernel
theorem dL_heat_13 : decode cL_heat 13 = .ok (.astore 4, 2) := by decide +kernel
theorem dL_heat_15 : decode cL_heat 15 = .ok (.iconst 1, 1) := by decide +kernel
theorem dL_heat_16 : decode cL_heat 16 = .ok (.ireturn, 1) := by decide +kernel
theorem dL_heat_17 : decode cL_heat 17 = .ok (.astore 4, 2) := by decide +kernel
theorem dL_heat_19 : decode cL_heat 19 = .ok (.iconst 2, 1) := by decide +kernel
theorem dL_heat_20 : decode cL_heat 20 = .ok (.ireturn, 1) := by decide +kernel
theorem dL_heat_21 : decode cL_heat 21 = .ok (.iconst 0, 1) := by decide +kernel
theorem dL_heat_22 : decode cL_heat 22 = .ok (.ireturn, 1) := by decide +kernel
theorem dL_dieOf_0 : decode cL_dieOf 0 = .ok (.aload_n 3, 1) := by decide +kernel
theorem dL_dieOf_1 : decode cL_dieOf 1 = .ok (.iconst 0, 1) := by decide +kernel
theorem dL_dieOf_2 : decode cL_dieOf 2 = .ok (.aload_n 0, 1) := by decide +kernel
theorem dL_dieOf_3 : decode cL_dieOf 3 = .ok (.iload_n 1, 1) := by decide +kernel
theorem dL_dieOf_4 : decode cL_dieOf 4 = .ok (.iload_n 2, 1) := by decide +kernel
theorem dL_dieOf_5 : decode cL_dieOf 5 = .ok (.invokevirtual 60, 3) := by decide +kernel
theorem dL_dieOf_8 : decode cL_dieOf 8 = .ok (.i2l, 1) := by decide +kernel
theorem dL_dieOf_9 : decode cL_dieOf 9 = .ok (.lastore, 1) := by decide +kernel
theorem dL_dieOf_10 : decode cL_dieOf 10 = .ok (.goto 11, 3) := by decide +kernel
theorem dL_dieOf_13 : decode cL_dieOf 13 = .ok (.astore 4, 2) := by decide +kernel
theorem dL_dieOf_15 : decode cL_dieOf 15 = .ok (.iconst 1, 1) := by decide +kernel
theorem dL_dieOf_16 : decode cL_dieOf 16 = .ok (.ireturn, 1) := by decide +kernel
theorem dL_dieOf_17 : decode cL_dieOf 17 = .ok (.astore 4, 2) := by decide +kernel
theorem dL_dieOf_19 : decode cL_dieOf 19 = .ok (.iconst 2, 1) := by decide +kernel
theorem dL_dieOf_20 : decode cL_dieOf 20 = .ok (.ireturn, 1) := by decide +kernel
theorem dL_dieOf_21 : decode cL_dieOf 21 = .ok (.iconst 0, 1) := by decide +kernel
theorem dL_dieOf_22 : decode cL_dieOf 22 = .ok (.ireturn, 1) := by decide +kernel
theorem dL_jobOf_0 : decode cL_jobOf 0 = .ok (.aload_n 3, 1) := by decide +kernel
theorem dL_jobOf_1 : decode cL_jobOf 1 = .ok (.iconst 0, 1) := by decide +kernel
theorem dL_jobOf_2 : decode cL_jobOf 2 = .ok (.aload_n 0, 1) := by decide +kernel
theorem dL_jobOf_3 : decode cL_jobOf 3 = .ok (.iload_n 1, 1) := by decide +kernel
theorem dL_jobOf_4 : decode cL_jobOf 4 = .ok (.iload_n 2, 1) := by decide +kernel
theorem dL_jobOf_5 : decode cL_jobOf 5 = .ok (.invokevirtual 63, 3) := by decide +kernel
theorem dL_jobOf_8 : decode cL_jobOf 8 = .ok (.i2l, 1) := by decide +kernel
theorem dL_jobOf_9 : decode cL_jobOf 9 = .ok (.lastore, 1) := by decide +kernel
theorem dL_jobOf_10 : decode cL_jobOf 10 = .ok (.goto 7, 3) := by decide +kernel
theorem dL_jobOf_13 : decode cL_jobOf 13 = .ok (.astore 4, 2) := by decide +kernel
theorem dL_jobOf_15 : decode cL_jobOf 15 = .ok (.iconst 1, 1) := by decide +kernel
theorem dL_jobOf_16 : decode cL_jobOf 16 = .ok (.ireturn, 1) := by decide +kernel
theorem dL_jobOf_17 : decode cL_jobOf 17 = .ok (.iconst 0, 1) := by decide +kernel
theorem dL_jobOf_18 : decode cL_jobOf 18 = .ok (.ireturn, 1) := by decide +kernel
theorem dL_billet_0 : decode cL_billet 0 = .ok (.aload_n 3, 1) := by decide +kernel
theorem dL_billet_1 : decode cL_billet 1 = .ok (.iconst 0, 1) := by decide +kernel
theorem dL_billet_2 : decode cL_billet 2 = .ok (.aload_n 0, 1) := by decide +kernel
theorem dL_billet_3 : decode cL_billet 3 = .ok (.iload_n 1, 1) := by decide +kernel
theorem dL_billet_4 : decode cL_billet 4 = .ok (.iload_n 2, 1) := by decide +kernel
theorem dL_billet_5 : decode cL_billet 5 = .ok (.invokevirtual 66, 3) := by decide +kernel
theorem dL_billet_8 : decode cL_billet 8 = .ok (.i2l, 1) := by decide +kernel
theorem dL_billet_9 : decode cL_billet 9 = .ok (.lastore, 1) := by decide +kernel
theorem dL_billet_10 : decode cL_billet 10 = .ok (.goto 11, 3) := by decide +kernel
theorem dL_billet_13 : decode cL_billet 13 = .ok (.astore 4, 2) := by decide +kernel
theorem dL_billet_15 : decode cL_billet 15 = .ok (.iconst 1, 1) := by decide +kernel
theorem dL_billet_16 : decode cL_billet 16 = .ok (.ireturn, 1) := by decide +kernel
theorem dL_billet_17 : decode cL_billet 17 = .ok (.astore 4, 2) := by decide +kernel
theorem dL_billet_19 : decode cL_billet 19 = .ok (.iconst 2, 1) := by decide +kernel
theorem dL_billet_20 : decode cL_billet 20 = .ok (.ireturn, 1) := by decide +kernel
theorem dL_billet_21 : decode cL_billet 21 = .ok (.iconst 0, 1) := by decide +kernel
theorem dL_billet_22 : decode cL_billet 22 = .ok (.ireturn, 1) := by decide +kernel
theorem dL_count_0 : decode cL_count 0 = .ok (.aload_n 2, 1) := by decide +kernel
theorem dL_count_1 : decode cL_count 1 = .ok (.iconst 0, 1) := by decide +kernel
theorem dL_count_2 : decode cL_count 2 = .ok (.aload_n 0, 1) := by decide +kernel
theorem dL_count_3 : decode cL_count 3 = .ok (.iload_n 1, 1) := by decide +kernel
theorem dL_count_4 : decode cL_count 4 = .ok (.invokevirtual 69, 3) := by decide +kernel
theorem dL_count_7 : decode cL_count 7 = .ok (.i2l, 1) := by decide +kernel
theorem dL_count_8 : decode cL_count 8 = .ok (.lastore, 1) := by decide +kernel
theorem dL_count_9 : decode cL_count 9 = .ok (.goto 6, 3) := by decide +kernel
theorem dL_count_12 : decode cL_count 12 = .ok (.astore_n 3, 1) := by decide +kernel
theorem dL_count_13 : decode cL_count 13 = .ok (.iconst 1, 1) := by decide +kernel
theorem dL_count_14 : decode cL_count 14 = .ok (.ireturn, 1) := by decide +kernel
theorem dL_count_15 : decode cL_count 15 = .ok (.iconst 0, 1) := by decide +kernel
theorem dL_count_16 : decode cL_count 16 = .ok (.ireturn, 1) := by decide +kernel
theorem dL_setting_0 : decode cL_setting 0 = .ok (.aload_n 2, 1) := by decide +kernel
theorem dL_setting_1 : decode cL_setting 1 = .ok (.iconst 0, 1) := by decide +kernel
theorem dL_setting_2 : decode cL_setting 2 = .ok (.aload_n 0, 1) := by decide +kernel
theorem dL_setting_3 : decode cL_setting 3 = .ok (.iload_n 1, 1) := by decide +kernel
theorem dL_setting_4 : decode cL_setting 4 = .ok (.invokevirtual 72, 3) := by decide +kernel
theorem dL_setting_7 : decode cL_setting 7 = .ok (.i2l, 1) := by decide +kernel
theorem dL_setting_8 : decode cL_setting 8 = .ok (.lastore, 1) := by decide +kernel
theorem dL_setting_9 : decode cL_setting 9 = .ok (.goto 6, 3) := by decide +kernel
theorem dL_setting_12 : decode cL_setting 12 = .ok (.astore_n 3, 1) := by decide +kernel
theorem dL_setting_13 : decode cL_setting 13 = .ok (.iconst 1, 1) := by decide +kernel
theorem dL_setting_14 : decode cL_setting 14 = .ok (.ireturn, 1) := by decide +kernel
theorem dL_setting_15 : decode cL_setting 15 = .ok (.iconst 0, 1) := by decide +kernel
theorem dL_setting_16 : decode cL_setting 16 = .ok (.ireturn, 1) := by decide +kernel
theorem dL_ifPassed_0 : decode cL_ifPassed 0 = .ok (.aload_n 3, 1) := by decide +kernel
theorem dL_ifPassed_1 : decode cL_ifPassed 1 = .ok (.iconst 0, 1) := by decide +kernel
theorem dL_ifPassed_2 : decode cL_ifPassed 2 = .ok (.aload_n 0, 1) := by decide +kernel
theorem dL_ifPassed_3 : decode cL_ifPassed 3 = .ok (.iload_n 1, 1) := by decide +kernel
theorem dL_ifPassed_4 : decode cL_ifPassed 4 = .ok (.iload_n 2, 1) := by decide +kernel
theorem dL_ifPassed_5 : decode cL_ifPassed 5 = .ok (.invokevirtual 75, 3) := by decide +kernel
theorem dL_ifPassed_8 : decode cL_ifPassed 8 = .ok (.i2l, 1) := by decide +kernel
theorem dL_ifPassed_9 : decode cL_ifPassed 9 = .ok (.lastore, 1) := by decide +kernel
theorem dL_ifPassed_10 : decode cL_ifPassed 10 = .ok (.goto 7, 3) := by decide +kernel
theorem dL_ifPassed_13 : decode cL_ifPassed 13 = .ok (.astore 4, 2) := by decide +kernel
theorem dL_ifPassed_15 : decode cL_ifPassed 15 = .ok (.iconst 1, 1) := by decide +kernel
theorem dL_ifPassed_16 : decode cL_ifPassed 16 = .ok (.ireturn, 1) := by decide +kernel
theorem dL_ifPassed_17 : decode cL_ifPassed 17 = .ok (.iconst 0, 1) := by decide +kernel
theorem dL_ifPassed_18 : decode cL_ifPassed 18 = .ok (.ireturn, 1) := by decide +kernel
theorem dL_doneIn_0 : decode cL_doneIn 0 = .ok (.aload_n 2, 1) := by decide +kernel
theorem dL_doneIn_1 : decode cL_doneIn 1 = .ok (.iconst 0, 1) := by decide +kernel
theorem dL_doneIn_2 : decode cL_doneIn 2 = .ok (.aload_n 0, 1) := by decide +kernel
theorem dL_doneIn_3 : decode cL_doneIn 3 = .ok (.iload_n 1, 1) := by decide +kernel
theorem dL_doneIn_4 : decode cL_doneIn 4 = .ok (.invokevirtual 78, 3) := by decide +kernel
theorem dL_doneIn_7 : decode cL_doneIn 7 = .ok (.i2l, 1) := by decide +kernel
theorem dL_doneIn_8 : decode cL_doneIn 8 = .ok (.lastore, 1) := by decide +kernel
theorem dL_doneIn_9 : decode cL_doneIn 9 = .ok (.goto 6, 3) := by decide +kernel
theorem dL_doneIn_12 : decode cL_doneIn 12 = .ok (.astore_n 3, 1) := by decide +kernel
theorem dL_doneIn_13 : decode cL_doneIn 13 = .ok (.iconst 1, 1) := by decide +kernel
theorem dL_doneIn_14 : decode cL_doneIn 14 = .ok (.ireturn, 1) := by decide +kernel
theorem dL_doneIn_15 : decode cL_doneIn 15 = .ok (.iconst 0, 1) := by decide +kernel
theorem dL_doneIn_16 : decode cL_doneIn 16 = .ok (.ireturn, 1) := by decide +kernel
theorem dL_ifRush_0 : decode cL_ifRush 0 = .ok (.aload_n 2, 1) := by decide +kernel
theorem dL_ifRush_1 : decode cL_ifRush 1 = .ok (.iconst 0, 1) := by decide +kernel
theorem dL_ifRush_2 : decode cL_ifRush 2 = .ok (.aload_n 0, 1) := by decide +kernel
theorem dL_ifRush_3 : decode cL_ifRush 3 = .ok (.iload_n 1, 1) := by decide +kernel
theorem dL_ifRush_4 : decode cL_ifRush 4 = .ok (.invokevirtual 81, 3) := by decide +kernel
theorem dL_ifRush_7 : decode cL_ifRush 7 = .ok (.i2l, 1) := by decide +kernel
theorem dL_ifRush_8 : decode cL_ifRush 8 = .ok (.lastore, 1) := by decide +kernel
theorem dL_ifRush_9 : decode cL_ifRush 9 = .ok (.goto 6, 3) := by decide +kernel
theorem dL_ifRush_12 : decode cL_ifRush 12 = .ok (.astore_n 3, 1) := by decide +kernel
theorem dL_ifRush_13 : decode cL_ifRush 13 = .ok (.iconst 1, 1) := by decide +kernel
theorem dL_ifRush_14 : decode cL_ifRush 14 = .ok (.ireturn, 1) := by decide +kernel
theorem dL_ifRush_15 : decode cL_ifRush 15 = .ok (.iconst 0, 1) := by decide +kernel
theorem dL_ifRush_16 : decode cL_ifRush 16 = .ok (.ireturn, 1) := by decide +kernel
theorem dL_bestReheats_0 : decode cL_bestReheats 0 = .ok (.aload_n 2, 1) := by decide +kernel
theorem dL_bestReheats_1 : decode cL_bestReheats 1 = .ok (.iconst 0, 1) := by decide +kernel
theorem dL_bestReheats_2 : decode cL_bestReheats 2 = .ok (.aload_n 0, 1) := by decide +kernel
theorem dL_bestReheats_3 : decode cL_bestReheats 3 = .ok (.iload_n 1, 1) := by decide +kernel
theorem dL_bestReheats_4 : decode cL_bestReheats 4 = .ok (.invokevirtual 84, 3) := by decide +kernel
theorem dL_bestReheats_7 : decode cL_bestReheats 7 = .ok (.i2l, 1) := by decide +kernel
theorem dL_bestReheats_8 : decode cL_bestReheats 8 = .ok (.lastore, 1) := by decide +kernel
theorem dL_bestReheats_9 : decode cL_bestReheats 9 = .ok (.goto 6, 3) := by decide +kernel
theorem dL_bestReheats_12 : decode cL_bestReheats 12 = .ok (.astore_n 3, 1) := by decide +kernel
theorem dL_bestReheats_13 : decode cL_bestReheats 13 = .ok (.iconst 1, 1) := by decide +kernel
theorem dL_bestReheats_14 : decode cL_bestReheats 14 = .ok (.ireturn, 1) := by decide +kernel
theorem dL_bestReheats_15 : decode cL_bestReheats 15 = .ok (.iconst 0, 1) := by decide +kernel
theorem dL_bestReheats_16 : decode cL_bestReheats 16 = .ok (.ireturn, 1) := by decide +kernel
theorem dL_law_0 : decode cL_law 0 = .ok (.new 8, 3) := by decide +kernel
theorem dL_law_3 : decode cL_law 3 = .ok (.dup, 1) := by decide +kernel
theorem dL_law_4 : decode cL_law 4 = .ok (.invokespecial 87, 3) := by decide +kernel
theorem dL_law_7 : decode cL_law 7 = .ok (.astore_n 1, 1) := by decide +kernel
theorem dL_law_8 : decode cL_law 8 = .ok (.new 88, 3) := by decide +kernel
theorem dL_law_11 : decode cL_law 11 = .ok (.dup, 1) := by decide +kernel
theorem dL_law_12 : decode cL_law 12 = .ok (.invokespecial 90, 3) := by decide +kernel
theorem dL_law_15 : decode cL_law 15 = .ok (.astore_n 2, 1) := by decide +kernel
theorem dL_law_16 : decode cL_law 16 = .ok (.iconst 1, 1) := by decide +kernel
theorem dL_law_17 : decode cL_law 17 = .ok (.newarray .long, 2) := by decide +kernel
theorem dL_law_19 : decode cL_law 19 = .ok (.astore_n 3, 1) := by decide +kernel
theorem dL_law_20 : decode cL_law 20 = .ok (.iconst 0, 1) := by decide +kernel
theorem dL_law_21 : decode cL_law 21 = .ok (.istore 4, 2) := by decide +kernel
theorem dL_law_23 : decode cL_law 23 = .ok (.iload 4, 2) := by decide +kernel
theorem dL_law_25 : decode cL_law 25 = .ok (.aload_n 0, 1) := by decide +kernel
theorem dL_law_26 : decode cL_law 26 = .ok (.arraylength, 1) := by decide +kernel
theorem dL_law_27 : decode cL_law 27 = .ok (.bipush 6, 2) := by decide +kernel
theorem dL_law_29 : decode cL_law 29 = .ok (.isub, 1) := by decide +kernel
theorem dL_law_30 : decode cL_law 30 = .ok (.if_icmp .gt 1649, 3) := by decide +kernel
theorem dL_law_33 : decode cL_law 33 = .ok (.aload_n 0, 1) := by decide +kernel
theorem dL_law_34 : decode cL_law 34 = .ok (.iload 4, 2) := by decide +kernel
theorem dL_law_36 : decode cL_law 36 = .ok (.iaload, 1) := by decide +kernel
theorem dL_law_37 : decode cL_law 37 = .ok (.bipush 31, 2) := by decide +kernel
theorem dL_law_39 : decode cL_law 39 = .ok (.iand, 1) := by decide +kernel
theorem dL_law_40 : decode cL_law 40 = .ok (.tableswitch 1633 0 25 #[120, 188, 268, 348, 404, 524, 580, 664, 732, 788, 844, 857, 870, 914, 958, 1026, 1094, 1162, 1230, 1286, 1342, 1410, 1466, 1522, 1578, 1619], 120) := by decide +kernel
theorem dL_law_160 : decode cL_law 160 = .ok (.aload_n 1, 1) := by decide +kernel
theorem dL_law_161 : decode cL_law 161 = .ok (.aload_n 0, 1) := by decide +kernel
theorem dL_law_162 : decode cL_law 162 = .ok (.iload 4, 2) := by decide +kernel
theorem dL_law_164 : decode cL_law 164 = .ok (.iconst 1, 1) := by decide +kernel
theorem dL_law_165 : decode cL_law 165 = .ok (.iadd, 1) := by decide +kernel
theorem dL_law_166 : decode cL_law 166 = .ok (.iaload, 1) := by decide +kernel
theorem dL_law_167 : decode cL_law 167 = .ok (.aload_n 0, 1) := by decide +kernel
theorem dL_law_168 : decode cL_law 168 = .ok (.iload 4, 2) := by decide +kernel
theorem dL_law_170 : decode cL_law 170 = .ok (.iconst 2, 1) := by decide +kernel
theorem dL_law_171 : decode cL_law 171 = .ok (.iadd, 1) := by decide +kernel
theorem dL_law_172 : decode cL_law 172 = .ok (.iaload, 1) := by decide +kernel
theorem dL_law_173 : decode cL_law 173 = .ok (.aload_n 3, 1) := by decide +kernel
theorem dL_law_174 : decode cL_law 174 = .ok (.invokestatic 91, 3) := by decide +kernel
theorem dL_law_177 : decode cL_law 177 = .ok (.istore 5, 2) := by decide +kernel
theorem dL_law_179 : decode cL_law 179 = .ok (.aload_n 2, 1) := by decide +kernel
theorem dL_law_180 : decode cL_law 180 = .ok (.aload_n 0, 1) := by decide +kernel
theorem dL_law_181 : decode cL_law 181 = .ok (.iload 4, 2) := by decide +kernel
theorem dL_law_183 : decode cL_law 183 = .ok (.iconst 1, 1) := by decide +kernel
theorem dL_law_184 : decode cL_law 184 = .ok (.iadd, 1) := by decide +kernel
theorem dL_law_185 : decode cL_law 185 = .ok (.iaload, 1) := by decide +kernel
theorem dL_law_186 : decode cL_law 186 = .ok (.aload_n 0, 1) := by decide +kernel
theorem dL_law_187 : decode cL_law 187 = .ok (.iload 4, 2) := by decide +kernel
theorem dL_law_189 : decode cL_law 189 = .ok (.iconst 2, 1) := by decide +kernel
theorem dL_law_190 : decode cL_law 190 = .ok (.iadd, 1) := by decide +kernel
theorem dL_law_191 : decode cL_law 191 = .ok (.iaload, 1) := by decide +kernel
theorem dL_law_192 : decode cL_law 192 = .ok (.invokevirtual 96, 3) := by decide +kernel
theorem dL_law_195 : decode cL_law 195 = .ok (.istore 6, 2) := by decide +kernel
theorem dL_law_197 : decode cL_law 197 = .ok (.aload_n 2, 1) := by decide +kernel
theorem dL_law_198 : decode cL_law 198 = .ok (.invokevirtual 97, 3) := by decide +kernel
theorem dL_law_201 : decode cL_law 201 = .ok (.iload 5, 2) := by decide +kernel
theorem dL_law_203 : decode cL_law 203 = .ok (.if_icmp .eq 5, 3) := by decide +kernel
theorem dL_law_206 : decode cL_law 206 = .ok (.iconst 0, 1) := by decide +kernel
theorem dL_law_207 : decode cL_law 207 = .ok (.ireturn, 1) := by decide +kernel
theorem dL_law_208 : decode cL_law 208 = .ok (.iload 5, 2) := by decide +kernel
theorem dL_law_210 : decode cL_law 210 = .ok (.ifCond .ne 15, 3) := by decide +kernel
theorem dL_law_213 : decode cL_law 213 = .ok (.aload_n 3, 1) := by decide +kernel
theorem dL_law_214 : decode cL_law 214 = .ok (.iconst 0, 1) := by decide +kernel
theorem dL_law_215 : decode cL_law 215 = .ok (.laload, 1) := by decide +kernel
theorem dL_law_216 : decode cL_law 216 = .ok (.iload 6, 2) := by decide +kernel
theorem dL_law_218 : decode cL_law 218 = .ok (.i2l, 1) := by decide +kernel
theorem dL_law_219 : decode cL_law 219 = .ok (.lcmp, 1) := by decide +kernel
theorem dL_law_220 : decode cL_law 220 = .ok (.ifCond .eq 5, 3) := by decide +kernel
theorem dL_law_223 : decode cL_law 223 = .ok (.iconst 0, 1) := by decide +kernel
theorem dL_law_224 : decode cL_law 224 = .ok (.ireturn, 1) := by decide +kernel
theorem dL_law_225 : decode cL_law 225 = .ok (.goto 1448, 3) := by decide +kernel
theorem dL_law_228 : decode cL_law 228 = .ok (.aload_n 1, 1) := by decide +kernel
theorem dL_law_229 : decode cL_law 229 = .ok (.aload_n 0, 1) := by decide +kernel
theorem dL_law_230 : decode cL_law 230 = .ok (.iload 4, 2) := by decide +kernel
theorem dL_law_232 : decode cL_law 232 = .ok (.iconst 1, 1) := by decide +kernel
theorem dL_law_233 : decode cL_law 233 = .ok (.iadd, 1) := by decide +kernel
theorem dL_law_234 : decode cL_law 234 = .ok (.iaload, 1) := by decide +kernel
theorem dL_law_235 : decode cL_law 235 = .ok (.aload_n 0, 1) := by decide +kernel
theorem dL_law_236 : decode cL_law 236 = .ok (.iload 4, 2) := by decide +kernel
theorem dL_law_238 : decode cL_law 238 = .ok (.iconst 2, 1) := by decide +kernel
theorem dL_law_239 : decode cL_law 239 = .ok (.iadd, 1) := by decide +kernel
theorem dL_law_240 : decode cL_law 240 = .ok (.iaload, 1) := by decide +kernel
theorem dL_law_241 : decode cL_law 241 = .ok (.aload_n 0, 1) := by decide +kernel
theorem dL_law_242 : decode cL_law 242 = .ok (.iload 4, 2) := by decide +kernel
theorem dL_law_244 : decode cL_law 244 = .ok (.iconst 3, 1) := by decide +kernel
theorem dL_law_245 : decode cL_law 245 = .ok (.iadd, 1) := by decide +kernel
theorem dL_law_246 : decode cL_law 246 = .ok (.iaload, 1) := by decide +kernel
theorem dL_law_247 : decode cL_law 247 = .ok (.aload_n 3, 1) := by decide +kernel
theorem dL_law_248 : decode cL_law 248 = .ok (.invokestatic 100, 3) := by decide +kernel
theorem dL_law_251 : decode cL_law 251 = .ok (.istore 5, 2) := by decide +kernel
theorem dL_law_253 : decode cL_law 253 = .ok (.aload_n 2, 1) := by decide +kernel
theorem dL_law_254 : decode cL_law 254 = .ok (.aload_n 0, 1) := by decide +kernel
theorem dL_law_255 : decode cL_law 255 = .ok (.iload 4, 2) := by decide +kernel
theorem dL_law_257 : decode cL_law 257 = .ok (.iconst 1, 1) := by decide +kernel
theorem dL_law_258 : decode cL_law 258 = .ok (.iadd, 1) := by decide +kernel
theorem dL_law_259 : decode cL_law 259 = .ok (.iaload, 1) := by decide +kernel
theorem dL_law_260 : decode cL_law 260 = .ok (.aload_n 0, 1) := by decide +kernel
theorem dL_law_261 : decode cL_law 261 = .ok (.iload 4, 2) := by decide +kernel
theorem dL_law_263 : decode cL_law 263 = .ok (.iconst 2, 1) := by decide +kernel
theorem dL_law_264 : decode cL_law 264 = .ok (.iadd, 1) := by decide +kernel
theorem dL_law_265 : decode cL_law 265 = .ok (.iaload, 1) := by decide +kernel
theorem dL_law_266 : decode cL_law 266 = .ok (.aload_n 0, 1) := by decide +kernel
theorem dL_law_267 : decode cL_law 267 = .ok (.iload 4, 2) := by decide +kernel
theorem dL_law_269 : decode cL_law 269 = .ok (.iconst 3, 1) := by decide +kernel
theorem dL_law_270 : decode cL_law 270 = .ok (.iadd, 1) := by decide +kernel
theorem dL_law_271 : decode cL_law 271 = .ok (.iaload, 1) := by decide +kernel
theorem dL_law_272 : decode cL_law 272 = .ok (.invokevirtual 103, 3) := by decide +kernel
theorem dL_law_275 : decode cL_law 275 = .ok (.istore 6, 2) := by decide +kernel
theorem dL_law_277 : decode cL_law 277 = .ok (.aload_n 2, 1) := by decide +kernel
theorem dL_law_278 : decode cL_law 278 = .ok (.invokevirtual 97, 3) := by decide +kernel
theorem dL_law_281 : decode cL_law 281 = .ok (.iload 5, 2) := by decide +kernel
theorem dL_law_283 : decode cL_law 283 = .ok (.if_icmp .eq 5, 3) := by decide +kernel
theorem dL_law_286 : decode cL_law 286 = .ok (.iconst 0, 1) := by decide +kernel
theorem dL_law_287 : decode cL_law 287 = .ok (.ireturn, 1) := by decide +kernel
theorem dL_law_288 : decode cL_law 288 = .ok (.iload 5, 2) := by decide +kernel
theorem dL_law_290 : decode cL_law 290 = .ok (.ifCond .ne 15, 3) := by decide +kernel
theorem dL_law_293 : decode cL_law 293 = .ok (.aload_n 3, 1) := by decide +kernel
theorem dL_law_294 : decode cL_law 294 = .ok (.iconst 0, 1) := by decide +kernel
theorem dL_law_295 : decode cL_law 295 = .ok (.laload, 1) := by decide +kernel
theorem dL_law_296 : decode cL_law 296 = .ok (.iload 6, 2) := by decide +kernel
theorem dL_law_298 : decode cL_law 298 = .ok (.i2l, 1) := by decide +kernel
theorem dL_law_299 : decode cL_law 299 = .ok (.lcmp, 1) := by decide +kernel
theorem dL_law_300 : decode cL_law 300 = .ok (.ifCond .eq 5, 3) := by decide +kernel
theorem dL_law_303 : decode cL_law 303 = .ok (.iconst 0, 1) := by decide +kernel
theorem dL_law_304 : decode cL_law 304 = .ok (.ireturn, 1) := by decide +kernel
theorem dL_law_305 : decode cL_law 305 = .ok (.goto 1368, 3) := by decide +kernel
theorem dL_law_308 : decode cL_law 308 = .ok (.aload_n 1, 1) := by decide +kernel
theorem dL_law_309 : decode cL_law 309 = .ok (.aload_n 0, 1) := by decide +kernel
theorem dL_law_310 : decode cL_law 310 = .ok (.iload 4, 2) := by decide +kernel
theorem dL_law_312 : decode cL_law 312 = .ok (.iconst 1, 1) := by decide +kernel
theorem dL_law_313 : decode cL_law 313 = .ok (.iadd, 1) := by decide +kernel
theorem dL_law_314 : decode cL_law 314 = .ok (.iaload, 1) := by decide +kernel
theorem dL_law_315 : decode cL_law 315 = .ok (.aload_n 0, 1) := by decide +kernel
theorem dL_law_316 : decode cL_law 316 = .ok (.iload 4, 2) := by decide +kernel
theorem dL_law_318 : decode cL_law 318 = .ok (.iconst 2, 1) := by decide +kernel
theorem dL_law_319 : decode cL_law 319 = .ok (.iadd, 1) := by decide +kernel
theorem dL_law_320 : decode cL_law 320 = .ok (.iaload, 1) := by decide +kernel
theorem dL_law_321 : decode cL_law 321 = .ok (.aload_n 0, 1) := by decide +kernel
theorem dL_law_322 : decode cL_law 322 = .ok (.iload 4, 2) := by decide +kernel
theorem dL_law_324 : decode cL_law 324 = .ok (.iconst 3, 1) := by decide +kernel
theorem dL_law_325 : decode cL_law 325 = .ok (.iadd, 1) := by decide +kernel
theorem dL_law_326 : decode cL_law 326 = .ok (.iaload, 1) := by decide +kernel
theorem dL_law_327 : decode cL_law 327 = .ok (.aload_n 3, 1) := by decide +kernel
theorem dL_law_328 : decode cL_law 328 = .ok (.invokestatic 104, 3) := by decide +kernel
theorem dL_law_331 : decode cL_law 331 = .ok (.istore 5, 2) := by decide +kernel
theorem dL_law_333 : decode cL_law 333 = .ok (.aload_n 2, 1) := by decide +kernel
theorem dL_law_334 : decode cL_law 334 = .ok (.aload_n 0, 1) := by decide +kernel
theorem dL_law_335 : decode cL_law 335 = .ok (.iload 4, 2) := by decide +kernel
theorem dL_law_337 : decode cL_law 337 = .ok (.iconst 1, 1) := by decide +kernel
theorem dL_law_338 : decode cL_law 338 = .ok (.iadd, 1) := by decide +kernel
theorem dL_law_339 : decode cL_law 339 = .ok (.iaload, 1) := by decide +kernel
theorem dL_law_340 : decode cL_law 340 = .ok (.aload_n 0, 1) := by decide +kernel
theorem dL_law_341 : decode cL_law 341 = .ok (.iload 4, 2) := by decide +kernel
theorem dL_law_343 : decode cL_law 343 = .ok (.iconst 2, 1) := by decide +kernel
theorem dL_law_344 : decode cL_law 344 = .ok (.iadd, 1) := by decide +kernel
theorem dL_law_345 : decode cL_law 345 = .ok (.iaload, 1) := by decide +kernel
theorem dL_law_346 : decode cL_law 346 = .ok (.aload_n 0, 1) := by decide +kernel
theorem dL_law_347 : decode cL_law 347 = .ok (.iload 4, 2) := by decide +kernel
theorem dL_law_349 : decode cL_law 349 = .ok (.iconst 3, 1) := by decide +kernel
theorem dL_law_350 : decode cL_law 350 = .ok (.iadd, 1) := by decide +kernel
theorem dL_law_351 : decode cL_law 351 = .ok (.iaload, 1) := by decide +kernel
theorem dL_law_352 : decode cL_law 352 = .ok (.invokevirtual 106, 3) := by decide +kernel
theorem dL_law_355 : decode cL_law 355 = .ok (.istore 6, 2) := by decide +kernel
theorem dL_law_357 : decode cL_law 357 = .ok (.aload_n 2, 1) := by decide +kernel
theorem dL_law_358 : decode cL_law 358 = .ok (.invokevirtual 97, 3) := by decide +kernel
theorem dL_law_361 : decode cL_law 361 = .ok (.iload 5, 2) := by decide +kernel
theorem dL_law_363 : decode cL_law 363 = .ok (.if_icmp .eq 5, 3) := by decide +kernel
theorem dL_law_366 : decode cL_law 366 = .ok (.iconst 0, 1) := by decide +kernel
theorem dL_law_367 : decode cL_law 367 = .ok (.ireturn, 1) := by decide +kernel
theorem dL_law_368 : decode cL_law 368 = .ok (.iload 5, 2) := by decide +kernel
theorem dL_law_370 : decode cL_law 370 = .ok (.ifCond .ne 15, 3) := by decide +kernel
theorem dL_law_373 : decode cL_law 373 = .ok (.aload_n 3, 1) := by decide +kernel
theorem dL_law_374 : decode cL_law 374 = .ok (.iconst 0, 1) := by decide +kernel
theorem dL_law_375 : decode cL_law 375 = .ok (.laload, 1) := by decide +kernel
theorem dL_law_376 : decode cL_law 376 = .ok (.iload 6, 2) := by decide +kernel
theorem dL_law_378 : decode cL_law 378 = .ok (.i2l, 1) := by decide +kernel
theorem dL_law_379 : decode cL_law 379 = .ok (.lcmp, 1) := by decide +kernel
theorem dL_law_380 : decode cL_law 380 = .ok (.ifCond .eq 5, 3) := by decide +kernel
theorem dL_law_383 : decode cL_law 383 = .ok (.iconst 0, 1) := by decide +kernel
theorem dL_law_384 : decode cL_law 384 = .ok (.ireturn, 1) := by decide +kernel
theorem dL_law_385 : decode cL_law 385 = .ok (.goto 1288, 3) := by decide +kernel
theorem dL_law_388 : decode cL_law 388 = .ok (.aload_n 1, 1) := by decide +kernel
theorem dL_law_389 : decode cL_law 389 = .ok (.aload_n 0, 1) := by decide +kernel
theorem dL_law_390 : decode cL_law 390 = .ok (.iload 4, 2) := by decide +kernel
theorem dL_law_392 : decode cL_law 392 = .ok (.iconst 1, 1) := by decide +kernel
theorem dL_law_393 : decode cL_law 393 = .ok (.iadd, 1) := by decide +kernel
theorem dL_law_394 : decode cL_law 394 = .ok (.iaload, 1) := by decide +kernel
theorem dL_law_395 : decode cL_law 395 = .ok (.aload_n 3, 1) := by decide +kernel
theorem dL_law_396 : decode cL_law 396 = .ok (.invokestatic 107, 3) := by decide +kernel
theorem dL_law_399 : decode cL_law 399 = .ok (.istore 5, 2) := by decide +kernel
theorem dL_law_401 : decode cL_law 401 = .ok (.aload_n 2, 1) := by decide +kernel
theorem dL_law_402 : decode cL_law 402 = .ok (.aload_n 0, 1) := by decide +kernel
theorem dL_law_403 : decode cL_law 403 = .ok (.iload 4, 2) := by decide +kernel
theorem dL_law_405 : decode cL_law 405 = .ok (.iconst 1, 1) := by decide +kernel
theorem dL_law_406 : decode cL_law 406 = .ok (.iadd, 1) := by decide +kernel
theorem dL_law_407 : decode cL_law 407 = .ok (.iaload, 1) := by decide +kernel
theorem dL_law_408 : decode cL_law 408 = .ok (.invokevirtual 110, 3) := by decide +kernel
theorem dL_law_411 : decode cL_law 411 = .ok (.istore 6, 2) := by decide +kernel
theorem dL_law_413 : decode cL_law 413 = .ok (.aload_n 2, 1) := by decide +kernel
theorem dL_law_414 : decode cL_law 414 = .ok (.invokevirtual 97, 3) := by decide +kernel
theorem dL_law_417 : decode cL_law 417 = .ok (.iload 5, 2) := by decide +kernel
theorem dL_law_419 : decode cL_law 419 = .ok (.if_icmp .eq 5, 3) := by decide +kernel
theorem dL_law_422 : decode cL_law 422 = .ok (.iconst 0, 1) := by decide +kernel
theorem dL_law_423 : decode cL_law 423 = .ok (.ireturn, 1) := by decide +kernel
theorem dL_law_424 : decode cL_law 424 = .ok (.iload 5, 2) := by decide +kernel
theorem dL_law_426 : decode cL_law 426 = .ok (.ifCond .ne 15, 3) := by decide +kernel
theorem dL_law_429 : decode cL_law 429 = .ok (.aload_n 3, 1) := by decide +kernel
theorem dL_law_430 : decode cL_law 430 = .ok (.iconst 0, 1) := by decide +kernel
theorem dL_law_431 : decode cL_law 431 = .ok (.laload, 1) := by decide +kernel
theorem dL_law_432 : decode cL_law 432 = .ok (.iload 6, 2) := by decide +kernel
theorem dL_law_434 : decode cL_law 434 = .ok (.i2l, 1) := by decide +kernel
theorem dL_law_435 : decode cL_law 435 = .ok (.lcmp, 1) := by decide +kernel
theorem dL_law_436 : decode cL_law 436 = .ok (.ifCond .eq 5, 3) := by decide +kernel
theorem dL_law_439 : decode cL_law 439 = .ok (.iconst 0, 1) := by decide +kernel
theorem dL_law_440 : decode cL_law 440 = .ok (.ireturn, 1) := by decide +kernel
theorem dL_law_441 : decode cL_law 441 = .ok (.goto 1232, 3) := by decide +kernel
theorem dL_law_444 : decode cL_law 444 = .ok (.aload_n 1, 1) := by decide +kernel
theorem dL_law_445 : decode cL_law 445 = .ok (.aload_n 0, 1) := by decide +kernel
theorem dL_law_446 : decode cL_law 446 = .ok (.iload 4, 2) := by decide +kernel
theorem dL_law_448 : decode cL_law 448 = .ok (.iconst 1, 1) := by decide +kernel
theorem dL_law_449 : decode cL_law 449 = .ok (.iadd, 1) := by decide +kernel
theorem dL_law_450 : decode cL_law 450 = .ok (.iaload, 1) := by decide +kernel
theorem dL_law_451 : decode cL_law 451 = .ok (.aload_n 0, 1) := by decide +kernel
theorem dL_law_452 : decode cL_law 452 = .ok (.iload 4, 2) := by decide +kernel
theorem dL_law_454 : decode cL_law 454 = .ok (.iconst 2, 1) := by decide +kernel
theorem dL_law_455 : decode cL_law 455 = .ok (.iadd, 1) := by decide +kernel
theorem dL_law_456 : decode cL_law 456 = .ok (.iaload, 1) := by decide +kernel
theorem dL_law_457 : decode cL_law 457 = .ok (.aload_n 0, 1) := by decide +kernel
theorem dL_law_458 : decode cL_law 458 = .ok (.iload 4, 2) := by decide +kernel
theorem dL_law_460 : decode cL_law 460 = .ok (.iconst 3, 1) := by decide +kernel
theorem dL_law_461 : decode cL_law 461 = .ok (.iadd, 1) := by decide +kernel
theorem dL_law_462 : decode cL_law 462 = .ok (.iaload, 1) := by decide +kernel
theorem dL_law_463 : decode cL_law 463 = .ok (.aload_n 0, 1) := by decide +kernel
theorem dL_law_464 : decode cL_law 464 = .ok (.iload 4, 2) := by decide +kernel
theorem dL_law_466 : decode cL_law 466 = .ok (.iconst 4, 1) := by decide +kernel
theorem dL_law_467 : decode cL_law 467 = .ok (.iadd, 1) := by decide +kernel
theorem dL_law_468 : decode cL_law 468 = .ok (.iaload, 1) := by decide +kernel
theorem dL_law_469 : decode cL_law 469 = .ok (.aload_n 0, 1) := by decide +kernel
theorem dL_law_470 : decode cL_law 470 = .ok (.iload 4, 2) := by decide +kernel
theorem dL_law_472 : decode cL_law 472 = .ok (.iconst 5, 1) := by decide +kernel
theorem dL_law_473 : decode cL_law 473 = .ok (.iadd, 1) := by decide +kernel
theorem dL_law_474 : decode cL_law 474 = .ok (.iaload, 1) := by decide +kernel
theorem dL_law_475 : decode cL_law 475 = .ok (.ifCond .eq 7, 3) := by decide +kernel
theorem dL_law_478 : decode cL_law 478 = .ok (.iconst 1, 1) := by decide +kernel
theorem dL_law_479 : decode cL_law 479 = .ok (.goto 4, 3) := by decide +kernel
theorem dL_law_482 : decode cL_law 482 = .ok (.iconst 0, 1) := by decide +kernel
theorem dL_law_483 : decode cL_law 483 = .ok (.aload_n 3, 1) := by decide +kernel
theorem dL_law_484 : decode cL_law 484 = .ok (.invokestatic 111, 3) := by decide +kernel
theorem dL_law_487 : decode cL_law 487 = .ok (.istore 5, 2) := by decide +kernel
theorem dL_law_489 : decode cL_law 489 = .ok (.aload_n 2, 1) := by decide +kernel
theorem dL_law_490 : decode cL_law 490 = .ok (.aload_n 0, 1) := by decide +kernel
theorem dL_law_491 : decode cL_law 491 = .ok (.iload 4, 2) := by decide +kernel
theorem dL_law_493 : decode cL_law 493 = .ok (.iconst 1, 1) := by decide +kernel
theorem dL_law_494 : decode cL_law 494 = .ok (.iadd, 1) := by decide +kernel
theorem dL_law_495 : decode cL_law 495 = .ok (.iaload, 1) := by decide +kernel
theorem dL_law_496 : decode cL_law 496 = .ok (.aload_n 0, 1) := by decide +kernel
theorem dL_law_497 : decode cL_law 497 = .ok (.iload 4, 2) := by decide +kernel
theorem dL_law_499 : decode cL_law 499 = .ok (.iconst 2, 1) := by decide +kernel
theorem dL_law_500 : decode cL_law 500 = .ok (.iadd, 1) := by decide +kernel
theorem dL_law_501 : decode cL_law 501 = .ok (.iaload, 1) := by decide +kernel
theorem dL_law_502 : decode cL_law 502 = .ok (.aload_n 0, 1) := by decide +kernel
theorem dL_law_503 : decode cL_law 503 = .ok (.iload 4, 2) := by decide +kernel
theorem dL_law_505 : decode cL_law 505 = .ok (.iconst 3, 1) := by decide +kernel
theorem dL_law_506 : decode cL_law 506 = .ok (.iadd, 1) := by decide +kernel
theorem dL_law_507 : decode cL_law 507 = .ok (.iaload, 1) := by decide +kernel
theorem dL_law_508 : decode cL_law 508 = .ok (.aload_n 0, 1) := by decide +kernel
theorem dL_law_509 : decode cL_law 509 = .ok (.iload 4, 2) := by decide +kernel
theorem dL_law_511 : decode cL_law 511 = .ok (.iconst 4, 1) := by decide +kernel
theorem dL_law_512 : decode cL_law 512 = .ok (.iadd, 1) := by decide +kernel
theorem dL_law_513 : decode cL_law 513 = .ok (.iaload, 1) := by decide +kernel
theorem dL_law_514 : decode cL_law 514 = .ok (.aload_n 0, 1) := by decide +kernel
theorem dL_law_515 : decode cL_law 515 = .ok (.iload 4, 2) := by decide +kernel
theorem dL_law_517 : decode cL_law 517 = .ok (.iconst 5, 1) := by decide +kernel
theorem dL_law_518 : decode cL_law 518 = .ok (.iadd, 1) := by decide +kernel
theorem dL_law_519 : decode cL_law 519 = .ok (.iaload, 1) := by decide +kernel
theorem dL_law_520 : decode cL_law 520 = .ok (.ifCond .eq 7, 3) := by decide +kernel
theorem dL_law_523 : decode cL_law 523 = .ok (.iconst 1, 1) := by decide +kernel
theorem dL_law_524 : decode cL_law 524 = .ok (.goto 4, 3) := by decide +kernel
theorem dL_law_527 : decode cL_law 527 = .ok (.iconst 0, 1) := by decide +kernel
theorem dL_law_528 : decode cL_law 528 = .ok (.invokevirtual 114, 3) := by decide +kernel
theorem dL_law_531 : decode cL_law 531 = .ok (.istore 6, 2) := by decide +kernel
theorem dL_law_533 : decode cL_law 533 = .ok (.aload_n 2, 1) := by decide +kernel
theorem dL_law_534 : decode cL_law 534 = .ok (.invokevirtual 97, 3) := by decide +kernel
theorem dL_law_537 : decode cL_law 537 = .ok (.iload 5, 2) := by decide +kernel
theorem dL_law_539 : decode cL_law 539 = .ok (.if_icmp .eq 5, 3) := by decide +kernel
theorem dL_law_542 : decode cL_law 542 = .ok (.iconst 0, 1) := by decide +kernel
theorem dL_law_543 : decode cL_law 543 = .ok (.ireturn, 1) := by decide +kernel
theorem dL_law_544 : decode cL_law 544 = .ok (.iload 5, 2) := by decide +kernel
theorem dL_law_546 : decode cL_law 546 = .ok (.ifCond .ne 15, 3) := by decide +kernel
theorem dL_law_549 : decode cL_law 549 = .ok (.aload_n 3, 1) := by decide +kernel
theorem dL_law_550 : decode cL_law 550 = .ok (.iconst 0, 1) := by decide +kernel
theorem dL_law_551 : decode cL_law 551 = .ok (.laload, 1) := by decide +kernel
theorem dL_law_552 : decode cL_law 552 = .ok (.iload 6, 2) := by decide +kernel
theorem dL_law_554 : decode cL_law 554 = .ok (.i2l, 1) := by decide +kernel
theorem dL_law_555 : decode cL_law 555 = .ok (.lcmp, 1) := by decide +kernel
theorem dL_law_556 : decode cL_law 556 = .ok (.ifCond .eq 5, 3) := by decide +kernel
theorem dL_law_559 : decode cL_law 559 = .ok (.iconst 0, 1) := by decide +kernel
theorem dL_law_560 : decode cL_law 560 = .ok (.ireturn, 1) := by decide +kernel
theorem dL_law_561 : decode cL_law 561 = .ok (.goto 1112, 3) := by decide +kernel
theorem dL_law_564 : decode cL_law 564 = .ok (.aload_n 1, 1) := by decide +kernel
theorem dL_law_565 : decode cL_law 565 = .ok (.aload_n 0, 1) := by decide +kernel
theorem dL_law_566 : decode cL_law 566 = .ok (.iload 4, 2) := by decide +kernel
theorem dL_law_568 : decode cL_law 568 = .ok (.iconst 1, 1) := by decide +kernel
theorem dL_law_569 : decode cL_law 569 = .ok (.iadd, 1) := by decide +kernel
theorem dL_law_570 : decode cL_law 570 = .ok (.iaload, 1) := by decide +kernel
theorem dL_law_571 : decode cL_law 571 = .ok (.aload_n 3, 1) := by decide +kernel
theorem dL_law_572 : decode cL_law 572 = .ok (.invokestatic 115, 3) := by decide +kernel
theorem dL_law_575 : decode cL_law 575 = .ok (.istore 5, 2) := by decide +kernel
theorem dL_law_577 : decode cL_law 577 = .ok (.aload_n 2, 1) := by decide +kernel
theorem dL_law_578 : decode cL_law 578 = .ok (.aload_n 0, 1) := by decide +kernel
theorem dL_law_579 : decode cL_law 579 = .ok (.iload 4, 2) := by decide +kernel
theorem dL_law_581 : decode cL_law 581 = .ok (.iconst 1, 1) := by decide +kernel
theorem dL_law_582 : decode cL_law 582 = .ok (.iadd, 1) := by decide +kernel
theorem dL_law_583 : decode cL_law 583 = .ok (.iaload, 1) := by decide +kernel
theorem dL_law_584 : decode cL_law 584 = .ok (.invokevirtual 117, 3) := by decide +kernel
theorem dL_law_587 : decode cL_law 587 = .ok (.istore 6, 2) := by decide +kernel
theorem dL_law_589 : decode cL_law 589 = .ok (.aload_n 2, 1) := by decide +kernel
theorem dL_law_590 : decode cL_law 590 = .ok (.invokevirtual 97, 3) := by decide +kernel
theorem dL_law_593 : decode cL_law 593 = .ok (.iload 5, 2) := by decide +kernel
theorem dL_law_595 : decode cL_law 595 = .ok (.if_icmp .eq 5, 3) := by decide +kernel
theorem dL_law_598 : decode cL_law 598 = .ok (.iconst 0, 1) := by decide +kernel
theorem dL_law_599 : decode cL_law 599 = .ok (.ireturn, 1) := by decide +kernel
theorem dL_law_600 : decode cL_law 600 = .ok (.iload 5, 2) := by decide +kernel
theorem dL_law_602 : decode cL_law 602 = .ok (.ifCond .ne 15, 3) := by decide +kernel
theorem dL_law_605 : decode cL_law 605 = .ok (.aload_n 3, 1) := by decide +kernel
theorem dL_law_606 : decode cL_law 606 = .ok (.iconst 0, 1) := by decide +kernel
theorem dL_law_607 : decode cL_law 607 = .ok (.laload, 1) := by decide +kernel
theorem dL_law_608 : decode cL_law 608 = .ok (.iload 6, 2) := by decide +kernel
theorem dL_law_610 : decode cL_law 610 = .ok (.i2l, 1) := by decide +kernel
theorem dL_law_611 : decode cL_law 611 = .ok (.lcmp, 1) := by decide +kernel
theorem dL_law_612 : decode cL_law 612 = .ok (.ifCond .eq 5, 3) := by decide +kernel
theorem dL_law_615 : decode cL_law 615 = .ok (.iconst 0, 1) := by decide +kernel
theorem dL_law_616 : decode cL_law 616 = .ok (.ireturn, 1) := by decide +kernel
theorem dL_law_617 : decode cL_law 617 = .ok (.goto 1056, 3) := by decide +kernel
theorem dL_law_620 : decode cL_law 620 = .ok (.aload_n 1, 1) := by decide +kernel
theorem dL_law_621 : decode cL_law 621 = .ok (.aload_n 0, 1) := by decide +kernel
theorem dL_law_622 : decode cL_law 622 = .ok (.iload 4, 2) := by decide +kernel
theorem dL_law_624 : decode cL_law 624 = .ok (.iconst 1, 1) := by decide +kernel
theorem dL_law_625 : decode cL_law 625 = .ok (.iadd, 1) := by decide +kernel
theorem dL_law_626 : decode cL_law 626 = .ok (.iaload, 1) := by decide +kernel
theorem dL_law_627 : decode cL_law 627 = .ok (.aload_n 0, 1) := by decide +kernel
theorem dL_law_628 : decode cL_law 628 = .ok (.iload 4, 2) := by decide +kernel
theorem dL_law_630 : decode cL_law 630 = .ok (.iconst 2, 1) := by decide +kernel
theorem dL_law_631 : decode cL_law 631 = .ok (.iadd, 1) := by decide +kernel
theorem dL_law_632 : decode cL_law 632 = .ok (.iaload, 1) := by decide +kernel
theorem dL_law_633 : decode cL_law 633 = .ok (.ifCond .eq 7, 3) := by decide +kernel
theorem dL_law_636 : decode cL_law 636 = .ok (.iconst 1, 1) := by decide +kernel
theorem dL_law_637 : decode cL_law 637 = .ok (.goto 4, 3) := by decide +kernel
theorem dL_law_640 : decode cL_law 640 = .ok (.iconst 0, 1) := by decide +kernel
theorem dL_law_641 : decode cL_law 641 = .ok (.aload_n 3, 1) := by decide +kernel
theorem dL_law_642 : decode cL_law 642 = .ok (.invokestatic 118, 3) := by decide +kernel
theorem dL_law_645 : decode cL_law 645 = .ok (.istore 5, 2) := by decide +kernel
theorem dL_law_647 : decode cL_law 647 = .ok (.aload_n 2, 1) := by decide +kernel
theorem dL_law_648 : decode cL_law 648 = .ok (.aload_n 0, 1) := by decide +kernel
theorem dL_law_649 : decode cL_law 649 = .ok (.iload 4, 2) := by decide +kernel
theorem dL_law_651 : decode cL_law 651 = .ok (.iconst 1, 1) := by decide +kernel
theorem dL_law_652 : decode cL_law 652 = .ok (.iadd, 1) := by decide +kernel
theorem dL_law_653 : decode cL_law 653 = .ok (.iaload, 1) := by decide +kernel
theorem dL_law_654 : decode cL_law 654 = .ok (.aload_n 0, 1) := by decide +kernel
theorem dL_law_655 : decode cL_law 655 = .ok (.iload 4, 2) := by decide +kernel
theorem dL_law_657 : decode cL_law 657 = .ok (.iconst 2, 1) := by decide +kernel
theorem dL_law_658 : decode cL_law 658 = .ok (.iadd, 1) := by decide +kernel
theorem dL_law_659 : decode cL_law 659 = .ok (.iaload, 1) := by decide +kernel
theorem dL_law_660 : decode cL_law 660 = .ok (.ifCond .eq 7, 3) := by decide +kernel
theorem dL_law_663 : decode cL_law 663 = .ok (.iconst 1, 1) := by decide +kernel
theorem dL_law_664 : decode cL_law 664 = .ok (.goto 4, 3) := by decide +kernel
theorem dL_law_667 : decode cL_law 667 = .ok (.iconst 0, 1) := by decide +kernel
theorem dL_law_668 : decode cL_law 668 = .ok (.invokevirtual 121, 3) := by decide +kernel
theorem dL_law_671 : decode cL_law 671 = .ok (.istore 6, 2) := by decide +kernel
theorem dL_law_673 : decode cL_law 673 = .ok (.aload_n 2, 1) := by decide +kernel
theorem dL_law_674 : decode cL_law 674 = .ok (.invokevirtual 97, 3) := by decide +kernel
theorem dL_law_677 : decode cL_law 677 = .ok (.iload 5, 2) := by decide +kernel
theorem dL_law_679 : decode cL_law 679 = .ok (.if_icmp .eq 5, 3) := by decide +kernel
theorem dL_law_682 : decode cL_law 682 = .ok (.iconst 0, 1) := by decide +kernel
theorem dL_law_683 : decode cL_law 683 = .ok (.ireturn, 1) := by decide +kernel
theorem dL_law_684 : decode cL_law 684 = .ok (.iload 5, 2) := by decide +kernel
theorem dL_law_686 : decode cL_law 686 = .ok (.ifCond .ne 15, 3) := by decide +kernel
theorem dL_law_689 : decode cL_law 689 = .ok (.aload_n 3, 1) := by decide +kernel
theorem dL_law_690 : decode cL_law 690 = .ok (.iconst 0, 1) := by decide +kernel
theorem dL_law_691 : decode cL_law 691 = .ok (.laload, 1) := by decide +kernel
theorem dL_law_692 : decode cL_law 692 = .ok (.iload 6, 2) := by decide +kernel
theorem dL_law_694 : decode cL_law 694 = .ok (.i2l, 1) := by decide +kernel
theorem dL_law_695 : decode cL_law 695 = .ok (.lcmp, 1) := by decide +kernel
theorem dL_law_696 : decode cL_law 696 = .ok (.ifCond .eq 5, 3) := by decide +kernel
theorem dL_law_699 : decode cL_law 699 = .ok (.iconst 0, 1) := by decide +kernel
theorem dL_law_700 : decode cL_law 700 = .ok (.ireturn, 1) := by decide +kernel
theorem dL_law_701 : decode cL_law 701 = .ok (.goto 972, 3) := by decide +kernel
theorem dL_law_704 : decode cL_law 704 = .ok (.aload_n 1, 1) := by decide +kernel
theorem dL_law_705 : decode cL_law 705 = .ok (.aload_n 0, 1) := by decide +kernel
theorem dL_law_706 : decode cL_law 706 = .ok (.iload 4, 2) := by decide +kernel
theorem dL_law_708 : decode cL_law 708 = .ok (.iconst 1, 1) := by decide +kernel
theorem dL_law_709 : decode cL_law 709 = .ok (.iadd, 1) := by decide +kernel
theorem dL_law_710 : decode cL_law 710 = .ok (.iaload, 1) := by decide +kernel
theorem dL_law_711 : decode cL_law 711 = .ok (.aload_n 0, 1) := by decide +kernel
theorem dL_law_712 : decode cL_law 712 = .ok (.iload 4, 2) := by decide +kernel
theorem dL_law_714 : decode cL_law 714 = .ok (.iconst 2, 1) := by decide +kernel
theorem dL_law_715 : decode cL_law 715 = .ok (.iadd, 1) := by decide +kernel
theorem dL_law_716 : decode cL_law 716 = .ok (.iaload, 1) := by decide +kernel
theorem dL_law_717 : decode cL_law 717 = .ok (.aload_n 3, 1) := by decide +kernel
theorem dL_law_718 : decode cL_law 718 = .ok (.invokestatic 122, 3) := by decide +kernel
theorem dL_law_721 : decode cL_law 721 = .ok (.istore 5, 2) := by decide +kernel
theorem dL_law_723 : decode cL_law 723 = .ok (.aload_n 2, 1) := by decide +kernel
theorem dL_law_724 : decode cL_law 724 = .ok (.aload_n 0, 1) := by decide +kernel
theorem dL_law_725 : decode cL_law 725 = .ok (.iload 4, 2) := by decide +kernel
theorem dL_law_727 : decode cL_law 727 = .ok (.iconst 1, 1) := by decide +kernel
theorem dL_law_728 : decode cL_law 728 = .ok (.iadd, 1) := by decide +kernel
theorem dL_law_729 : decode cL_law 729 = .ok (.iaload, 1) := by decide +kernel
theorem dL_law_730 : decode cL_law 730 = .ok (.aload_n 0, 1) := by decide +kernel
theorem dL_law_731 : decode cL_law 731 = .ok (.iload 4, 2) := by decide +kernel
theorem dL_law_733 : decode cL_law 733 = .ok (.iconst 2, 1) := by decide +kernel
theorem dL_law_734 : decode cL_law 734 = .ok (.iadd, 1) := by decide +kernel
theorem dL_law_735 : decode cL_law 735 = .ok (.iaload, 1) := by decide +kernel
theorem dL_law_736 : decode cL_law 736 = .ok (.invokevirtual 124, 3) := by decide +kernel
theorem dL_law_739 : decode cL_law 739 = .ok (.istore 6, 2) := by decide +kernel
theorem dL_law_741 : decode cL_law 741 = .ok (.aload_n 2, 1) := by decide +kernel
theorem dL_law_742 : decode cL_law 742 = .ok (.invokevirtual 97, 3) := by decide +kernel
theorem dL_law_745 : decode cL_law 745 = .ok (.iload 5, 2) := by decide +kernel
theorem dL_law_747 : decode cL_law 747 = .ok (.if_icmp .eq 5, 3) := by decide +kernel
theorem dL_law_750 : decode cL_law 750 = .ok (.iconst 0, 1) := by decide +kernel
theorem dL_law_751 : decode cL_law 751 = .ok (.ireturn, 1) := by decide +kernel
theorem dL_law_752 : decode cL_law 752 = .ok (.iload 5, 2) := by decide +kernel
theorem dL_law_754 : decode cL_law 754 = .ok (.ifCond .ne 15, 3) := by decide +kernel
theorem dL_law_757 : decode cL_law 757 = .ok (.aload_n 3, 1) := by decide +kernel
theorem dL_law_758 : decode cL_law 758 = .ok (.iconst 0, 1) := by decide +kernel
theorem dL_law_759 : decode cL_law 759 = .ok (.laload, 1) := by decide +kernel
theorem dL_law_760 : decode cL_law 760 = .ok (.iload 6, 2) := by decide +kernel
theorem dL_law_762 : decode cL_law 762 = .ok (.i2l, 1) := by decide +kernel
theorem dL_law_763 : decode cL_law 763 = .ok (.lcmp, 1) := by decide +kernel
theorem dL_law_764 : decode cL_law 764 = .ok (.ifCond .eq 5, 3) := by decide +kernel
theorem dL_law_767 : decode cL_law 767 = .ok (.iconst 0, 1) := by decide +kernel
theorem dL_law_768 : decode cL_law 768 = .ok (.ireturn, 1) := by decide +kernel
theorem dL_law_769 : decode cL_law 769 = .ok (.goto 904, 3) := by decide +kernel
theorem dL_law_772 : decode cL_law 772 = .ok (.aload_n 1, 1) := by decide +kernel
theorem dL_law_773 : decode cL_law 773 = .ok (.aload_n 0, 1) := by decide +kernel
theorem dL_law_774 : decode cL_law 774 = .ok (.iload 4, 2) := by decide +kernel
theorem dL_law_776 : decode cL_law 776 = .ok (.iconst 1, 1) := by decide +kernel
theorem dL_law_777 : decode cL_law 777 = .ok (.iadd, 1) := by decide +kernel
theorem dL_law_778 : decode cL_law 778 = .ok (.iaload, 1) := by decide +kernel
theorem dL_law_779 : decode cL_law 779 = .ok (.aload_n 3, 1) := by decide +kernel
theorem dL_law_780 : decode cL_law 780 = .ok (.invokestatic 125, 3) := by decide +kernel
theorem dL_law_783 : decode cL_law 783 = .ok (.istore 5, 2) := by decide +kernel
theorem dL_law_785 : decode cL_law 785 = .ok (.aload_n 2, 1) := by decide +kernel
theorem dL_law_786 : decode cL_law 786 = .ok (.aload_n 0, 1) := by decide +kernel
theorem dL_law_787 : decode cL_law 787 = .ok (.iload 4, 2) := by decide +kernel
theorem dL_law_789 : decode cL_law 789 = .ok (.iconst 1, 1) := by decide +kernel
theorem dL_law_790 : decode cL_law 790 = .ok (.iadd, 1) := by decide +kernel
theorem dL_law_791 : decode cL_law 791 = .ok (.iaload, 1) := by decide +kernel
theorem dL_law_792 : decode cL_law 792 = .ok (.invokevirtual 127, 3) := by decide +kernel
theorem dL_law_795 : decode cL_law 795 = .ok (.istore 6, 2) := by decide +kernel
theorem dL_law_797 : decode cL_law 797 = .ok (.aload_n 2, 1) := by decide +kernel
theorem dL_law_798 : decode cL_law 798 = .ok (.invokevirtual 97, 3) := by decide +kernel
theorem dL_law_801 : decode cL_law 801 = .ok (.iload 5, 2) := by decide +kernel
theorem dL_law_803 : decode cL_law 803 = .ok (.if_icmp .eq 5, 3) := by decide +kernel
theorem dL_law_806 : decode cL_law 806 = .ok (.iconst 0, 1) := by decide +kernel
theorem dL_law_807 : decode cL_law 807 = .ok (.ireturn, 1) := by decide +kernel
theorem dL_law_808 : decode cL_law 808 = .ok (.iload 5, 2) := by decide +kernel
theorem dL_law_810 : decode cL_law 810 = .ok (.ifCond .ne 15, 3) := by decide +kernel
theorem dL_law_813 : decode cL_law 813 = .ok (.aload_n 3, 1) := by decide +kernel
theorem dL_law_814 : decode cL_law 814 = .ok (.iconst 0, 1) := by decide +kernel
theorem dL_law_815 : decode cL_law 815 = .ok (.laload, 1) := by decide +kernel
theorem dL_law_816 : decode cL_law 816 = .ok (.iload 6, 2) := by decide +kernel
theorem dL_law_818 : decode cL_law 818 = .ok (.i2l, 1) := by decide +kernel
theorem dL_law_819 : decode cL_law 819 = .ok (.lcmp, 1) := by decide +kernel
theorem dL_law_820 : decode cL_law 820 = .ok (.ifCond .eq 5, 3) := by decide +kernel
theorem dL_law_823 : decode cL_law 823 = .ok (.iconst 0, 1) := by decide +kernel
theorem dL_law_824 : decode cL_law 824 = .ok (.ireturn, 1) := by decide +kernel
theorem dL_law_825 : decode cL_law 825 = .ok (.goto 848, 3) := by decide +kernel
theorem dL_law_828 : decode cL_law 828 = .ok (.aload_n 1, 1) := by decide +kernel
theorem dL_law_829 : decode cL_law 829 = .ok (.aload_n 0, 1) := by decide +kernel
theorem dL_law_830 : decode cL_law 830 = .ok (.iload 4, 2) := by decide +kernel
theorem dL_law_832 : decode cL_law 832 = .ok (.iconst 1, 1) := by decide +kernel
theorem dL_law_833 : decode cL_law 833 = .ok (.iadd, 1) := by decide +kernel
theorem dL_law_834 : decode cL_law 834 = .ok (.iaload, 1) := by decide +kernel
theorem dL_law_835 : decode cL_law 835 = .ok (.aload_n 3, 1) := by decide +kernel
theorem dL_law_836 : decode cL_law 836 = .ok (.invokestatic 128, 3) := by decide +kernel
theorem dL_law_839 : decode cL_law 839 = .ok (.istore 5, 2) := by decide +kernel
theorem dL_law_841 : decode cL_law 841 = .ok (.aload_n 2, 1) := by decide +kernel
theorem dL_law_842 : decode cL_law 842 = .ok (.aload_n 0, 1) := by decide +kernel
theorem dL_law_843 : decode cL_law 843 = .ok (.iload 4, 2) := by decide +kernel
theorem dL_law_845 : decode cL_law 845 = .ok (.iconst 1, 1) := by decide +kernel
theorem dL_law_846 : decode cL_law 846 = .ok (.iadd, 1) := by decide +kernel
theorem dL_law_847 : decode cL_law 847 = .ok (.iaload, 1) := by decide +kernel
theorem dL_law_848 : decode cL_law 848 = .ok (.invokevirtual 130, 3) := by decide +kernel
theorem dL_law_851 : decode cL_law 851 = .ok (.istore 6, 2) := by decide +kernel
theorem dL_law_853 : decode cL_law 853 = .ok (.aload_n 2, 1) := by decide +kernel
theorem dL_law_854 : decode cL_law 854 = .ok (.invokevirtual 97, 3) := by decide +kernel
theorem dL_law_857 : decode cL_law 857 = .ok (.iload 5, 2) := by decide +kernel
theorem dL_law_859 : decode cL_law 859 = .ok (.if_icmp .eq 5, 3) := by decide +kernel
theorem dL_law_862 : decode cL_law 862 = .ok (.iconst 0, 1) := by decide +kernel
theorem dL_law_863 : decode cL_law 863 = .ok (.ireturn, 1) := by decide +kernel
theorem dL_law_864 : decode cL_law 864 = .ok (.iload 5, 2) := by decide +kernel
theorem dL_law_866 : decode cL_law 866 = .ok (.ifCond .ne 15, 3) := by decide +kernel
theorem dL_law_869 : decode cL_law 869 = .ok (.aload_n 3, 1) := by decide +kernel
theorem dL_law_870 : decode cL_law 870 = .ok (.iconst 0, 1) := by decide +kernel
theorem dL_law_871 : decode cL_law 871 = .ok (.laload, 1) := by decide +kernel
theorem dL_law_872 : decode cL_law 872 = .ok (.iload 6, 2) := by decide +kernel
theorem dL_law_874 : decode cL_law 874 = .ok (.i2l, 1) := by decide +kernel
theorem dL_law_875 : decode cL_law 875 = .ok (.lcmp, 1) := by decide +kernel
theorem dL_law_876 : decode cL_law 876 = .ok (.ifCond .eq 5, 3) := by decide +kernel
theorem dL_law_879 : decode cL_law 879 = .ok (.iconst 0, 1) := by decide +kernel
theorem dL_law_880 : decode cL_law 880 = .ok (.ireturn, 1) := by decide +kernel
theorem dL_law_881 : decode cL_law 881 = .ok (.goto 792, 3) := by decide +kernel
theorem dL_law_884 : decode cL_law 884 = .ok (.aload_n 1, 1) := by decide +kernel
theorem dL_law_885 : decode cL_law 885 = .ok (.invokevirtual 131, 3) := by decide +kernel
theorem dL_law_888 : decode cL_law 888 = .ok (.aload_n 2, 1) := by decide +kernel
theorem dL_law_889 : decode cL_law 889 = .ok (.invokevirtual 134, 3) := by decide +kernel
theorem dL_law_892 : decode cL_law 892 = .ok (.if_icmp .eq 781, 3) := by decide +kernel
theorem dL_law_895 : decode cL_law 895 = .ok (.iconst 0, 1) := by decide +kernel
theorem dL_law_896 : decode cL_law 896 = .ok (.ireturn, 1) := by decide +kernel
theorem dL_law_897 : decode cL_law 897 = .ok (.aload_n 1, 1) := by decide +kernel
theorem dL_law_898 : decode cL_law 898 = .ok (.invokevirtual 135, 3) := by decide +kernel
theorem dL_law_901 : decode cL_law 901 = .ok (.aload_n 2, 1) := by decide +kernel
theorem dL_law_902 : decode cL_law 902 = .ok (.invokevirtual 138, 3) := by decide +kernel
theorem dL_law_905 : decode cL_law 905 = .ok (.if_icmp .eq 768, 3) := by decide +kernel
theorem dL_law_908 : decode cL_law 908 = .ok (.iconst 0, 1) := by decide +kernel
theorem dL_law_909 : decode cL_law 909 = .ok (.ireturn, 1) := by decide +kernel
theorem dL_law_910 : decode cL_law 910 = .ok (.aload_n 1, 1) := by decide +kernel
theorem dL_law_911 : decode cL_law 911 = .ok (.aload_n 3, 1) := by decide +kernel
theorem dL_law_912 : decode cL_law 912 = .ok (.invokestatic 139, 3) := by decide +kernel
theorem dL_law_915 : decode cL_law 915 = .ok (.istore 5, 2) := by decide +kernel
theorem dL_law_917 : decode cL_law 917 = .ok (.aload_n 2, 1) := by decide +kernel
theorem dL_law_918 : decode cL_law 918 = .ok (.invokevirtual 142, 3) := by decide +kernel
theorem dL_law_921 : decode cL_law 921 = .ok (.istore 6, 2) := by decide +kernel
theorem dL_law_923 : decode cL_law 923 = .ok (.aload_n 2, 1) := by decide +kernel
theorem dL_law_924 : decode cL_law 924 = .ok (.invokevirtual 97, 3) := by decide +kernel
theorem dL_law_927 : decode cL_law 927 = .ok (.iload 5, 2) := by decide +kernel
theorem dL_law_929 : decode cL_law 929 = .ok (.if_icmp .eq 5, 3) := by decide +kernel
theorem dL_law_932 : decode cL_law 932 = .ok (.iconst 0, 1) := by decide +kernel
theorem dL_law_933 : decode cL_law 933 = .ok (.ireturn, 1) := by decide +kernel
theorem dL_law_934 : decode cL_law 934 = .ok (.iload 5, 2) := by decide +kernel
theorem dL_law_936 : decode cL_law 936 = .ok (.ifCond .ne 15, 3) := by decide +kernel
theorem dL_law_939 : decode cL_law 939 = .ok (.aload_n 3, 1) := by decide +kernel
theorem dL_law_940 : decode cL_law 940 = .ok (.iconst 0, 1) := by decide +kernel
theorem dL_law_941 : decode cL_law 941 = .ok (.laload, 1) := by decide +kernel
theorem dL_law_942 : decode cL_law 942 = .ok (.iload 6, 2) := by decide +kernel
theorem dL_law_944 : decode cL_law 944 = .ok (.i2l, 1) := by decide +kernel
theorem dL_law_945 : decode cL_law 945 = .ok (.lcmp, 1) := by decide +kernel
theorem dL_law_946 : decode cL_law 946 = .ok (.ifCond .eq 5, 3) := by decide +kernel
theorem dL_law_949 : decode cL_law 949 = .ok (.iconst 0, 1) := by decide +kernel
theorem dL_law_950 : decode cL_law 950 = .ok (.ireturn, 1) := by decide +kernel
theorem dL_law_951 : decode cL_law 951 = .ok (.goto 722, 3) := by decide +kernel
theorem dL_law_954 : decode cL_law 954 = .ok (.aload_n 1, 1) := by decide +kernel
theorem dL_law_955 : decode cL_law 955 = .ok (.aload_n 3, 1) := by decide +kernel
theorem dL_law_956 : decode cL_law 956 = .ok (.invokestatic 143, 3) := by decide +kernel
theorem dL_law_959 : decode cL_law 959 = .ok (.istore 5, 2) := by decide +kernel
theorem dL_law_961 : decode cL_law 961 = .ok (.aload_n 2, 1) := by decide +kernel
theorem dL_law_962 : decode cL_law 962 = .ok (.invokevirtual 145, 3) := by decide +kernel
theorem dL_law_965 : decode cL_law 965 = .ok (.istore 6, 2) := by decide +kernel
theorem dL_law_967 : decode cL_law 967 = .ok (.aload_n 2, 1) := by decide +kernel
theorem dL_law_968 : decode cL_law 968 = .ok (.invokevirtual 97, 3) := by decide +kernel
theorem dL_law_971 : decode cL_law 971 = .ok (.iload 5, 2) := by decide +kernel
theorem dL_law_973 : decode cL_law 973 = .ok (.if_icmp .eq 5, 3) := by decide +kernel
theorem dL_law_976 : decode cL_law 976 = .ok (.iconst 0, 1) := by decide +kernel
theorem dL_law_977 : decode cL_law 977 = .ok (.ireturn, 1) := by decide +kernel
theorem dL_law_978 : decode cL_law 978 = .ok (.iload 5, 2) := by decide +kernel
theorem dL_law_980 : decode cL_law 980 = .ok (.ifCond .ne 15, 3) := by decide +kernel
theorem dL_law_983 : decode cL_law 983 = .ok (.aload_n 3, 1) := by decide +kernel
theorem dL_law_984 : decode cL_law 984 = .ok (.iconst 0, 1) := by decide +kernel
theorem dL_law_985 : decode cL_law 985 = .ok (.laload, 1) := by decide +kernel
theorem dL_law_986 : decode cL_law 986 = .ok (.iload 6, 2) := by decide +kernel
theorem dL_law_988 : decode cL_law 988 = .ok (.i2l, 1) := by decide +kernel
theorem dL_law_989 : decode cL_law 989 = .ok (.lcmp, 1) := by decide +kernel
theorem dL_law_990 : decode cL_law 990 = .ok (.ifCond .eq 5, 3) := by decide +kernel
theorem dL_law_993 : decode cL_law 993 = .ok (.iconst 0, 1) := by decide +kernel
theorem dL_law_994 : decode cL_law 994 = .ok (.ireturn, 1) := by decide +kernel
theorem dL_law_995 : decode cL_law 995 = .ok (.goto 678, 3) := by decide +kernel
theorem dL_law_998 : decode cL_law 998 = .ok (.aload_n 1, 1) := by decide +kernel
theorem dL_law_999 : decode cL_law 999 = .ok (.aload_n 0, 1) := by decide +kernel
theorem dL_law_1000 : decode cL_law 1000 = .ok (.iload 4, 2) := by decide +kernel
theorem dL_law_1002 : decode cL_law 1002 = .ok (.iconst 1, 1) := by decide +kernel
theorem dL_law_1003 : decode cL_law 1003 = .ok (.iadd, 1) := by decide +kernel
theorem dL_law_1004 : decode cL_law 1004 = .ok (.iaload, 1) := by decide +kernel
theorem dL_law_1005 : decode cL_law 1005 = .ok (.aload_n 0, 1) := by decide +kernel
theorem dL_law_1006 : decode cL_law 1006 = .ok (.iload 4, 2) := by decide +kernel
theorem dL_law_1008 : decode cL_law 1008 = .ok (.iconst 2, 1) := by decide +kernel
theorem dL_law_1009 : decode cL_law 1009 = .ok (.iadd, 1) := by decide +kernel
theorem dL_law_1010 : decode cL_law 1010 = .ok (.iaload, 1) := by decide +kernel
theorem dL_law_1011 : decode cL_law 1011 = .ok (.aload_n 3, 1) := by decide +kernel
theorem dL_law_1012 : decode cL_law 1012 = .ok (.invokestatic 146, 3) := by decide +kernel
theorem dL_law_1015 : decode cL_law 1015 = .ok (.istore 5, 2) := by decide +kernel
theorem dL_law_1017 : decode cL_law 1017 = .ok (.aload_n 2, 1) := by decide +kernel
theorem dL_law_1018 : decode cL_law 1018 = .ok (.aload_n 0, 1) := by decide +kernel
theorem dL_law_1019 : decode cL_law 1019 = .ok (.iload 4, 2) := by decide +kernel
theorem dL_law_1021 : decode cL_law 1021 = .ok (.iconst 1, 1) := by decide +kernel
theorem dL_law_1022 : decode cL_law 1022 = .ok (.iadd, 1) := by decide +kernel
theorem dL_law_1023 : decode cL_law 1023 = .ok (.iaload, 1) := by decide +kernel
theorem dL_law_1024 : decode cL_law 1024 = .ok (.aload_n 0, 1) := by decide +kernel
theorem dL_law_1025 : decode cL_law 1025 = .ok (.iload 4, 2) := by decide +kernel
theorem dL_law_1027 : decode cL_law 1027 = .ok (.iconst 2, 1) := by decide +kernel
theorem dL_law_1028 : decode cL_law 1028 = .ok (.iadd, 1) := by decide +kernel
theorem dL_law_1029 : decode cL_law 1029 = .ok (.iaload, 1) := by decide +kernel
theorem dL_law_1030 : decode cL_law 1030 = .ok (.invokevirtual 148, 3) := by decide +kernel
theorem dL_law_1033 : decode cL_law 1033 = .ok (.istore 6, 2) := by decide +kernel
theorem dL_law_1035 : decode cL_law 1035 = .ok (.aload_n 2, 1) := by decide +kernel
theorem dL_law_1036 : decode cL_law 1036 = .ok (.invokevirtual 97, 3) := by decide +kernel
theorem dL_law_1039 : decode cL_law 1039 = .ok (.iload 5, 2) := by decide +kernel
theorem dL_law_1041 : decode cL_law 1041 = .ok (.if_icmp .eq 5, 3) := by decide +kernel
theorem dL_law_1044 : decode cL_law 1044 = .ok (.iconst 0, 1) := by decide +kernel
theorem dL_law_1045 : decode cL_law 1045 = .ok (.ireturn, 1) := by decide +kernel
theorem dL_law_1046 : decode cL_law 1046 = .ok (.iload 5, 2) := by decide +kernel
theorem dL_law_1048 : decode cL_law 1048 = .ok (.ifCond .ne 15, 3) := by decide +kernel
theorem dL_law_1051 : decode cL_law 1051 = .ok (.aload_n 3, 1) := by decide +kernel
theorem dL_law_1052 : decode cL_law 1052 = .ok (.iconst 0, 1) := by decide +kernel
theorem dL_law_1053 : decode cL_law 1053 = .ok (.laload, 1) := by decide +kernel
theorem dL_law_1054 : decode cL_law 1054 = .ok (.iload 6, 2) := by decide +kernel
theorem dL_law_1056 : decode cL_law 1056 = .ok (.i2l, 1) := by decide +kernel
theorem dL_law_1057 : decode cL_law 1057 = .ok (.lcmp, 1) := by decide +kernel
theorem dL_law_1058 : decode cL_law 1058 = .ok (.ifCond .eq 5, 3) := by decide +kernel
theorem dL_law_1061 : decode cL_law 1061 = .ok (.iconst 0, 1) := by decide +kernel
theorem dL_law_1062 : decode cL_law 1062 = .ok (.ireturn, 1) := by decide +kernel
theorem dL_law_1063 : decode cL_law 1063 = .ok (.goto 610, 3) := by decide +kernel
theorem dL_law_1066 : decode cL_law 1066 = .ok (.aload_n 1, 1) := by decide +kernel
theorem dL_law_1067 : decode cL_law 1067 = .ok (.aload_n 0, 1) := by decide +kernel
theorem dL_law_1068 : decode cL_law 1068 = .ok (.iload 4, 2) := by decide +kernel
theorem dL_law_1070 : decode cL_law 1070 = .ok (.iconst 1, 1) := by decide +kernel
theorem dL_law_1071 : decode cL_law 1071 = .ok (.iadd, 1) := by decide +kernel
theorem dL_law_1072 : decode cL_law 1072 = .ok (.iaload, 1) := by decide +kernel
theorem dL_law_1073 : decode cL_law 1073 = .ok (.aload_n 0, 1) := by decide +kernel
theorem dL_law_1074 : decode cL_law 1074 = .ok (.iload 4, 2) := by decide +kernel
theorem dL_law_1076 : decode cL_law 1076 = .ok (.iconst 2, 1) := by decide +kernel
theorem dL_law_1077 : decode cL_law 1077 = .ok (.iadd, 1) := by decide +kernel
theorem dL_law_1078 : decode cL_law 1078 = .ok (.iaload, 1) := by decide +kernel
theorem dL_law_1079 : decode cL_law 1079 = .ok (.aload_n 3, 1) := by decide +kernel
theorem dL_law_1080 : decode cL_law 1080 = .ok (.invokestatic 149, 3) := by decide +kernel
theorem dL_law_1083 : decode cL_law 1083 = .ok (.istore 5, 2) := by decide +kernel
theorem dL_law_1085 : decode cL_law 1085 = .ok (.aload_n 2, 1) := by decide +kernel
theorem dL_law_1086 : decode cL_law 1086 = .ok (.aload_n 0, 1) := by decide +kernel
theorem dL_law_1087 : decode cL_law 1087 = .ok (.iload 4, 2) := by decide +kernel
theorem dL_law_1089 : decode cL_law 1089 = .ok (.iconst 1, 1) := by decide +kernel
theorem dL_law_1090 : decode cL_law 1090 = .ok (.iadd, 1) := by decide +kernel
theorem dL_law_1091 : decode cL_law 1091 = .ok (.iaload, 1) := by decide +kernel
theorem dL_law_1092 : decode cL_law 1092 = .ok (.aload_n 0, 1) := by decide +kernel
theorem dL_law_1093 : decode cL_law 1093 = .ok (.iload 4, 2) := by decide +kernel
theorem dL_law_1095 : decode cL_law 1095 = .ok (.iconst 2, 1) := by decide +kernel
theorem dL_law_1096 : decode cL_law 1096 = .ok (.iadd, 1) := by decide +kernel
theorem dL_law_1097 : decode cL_law 1097 = .ok (.iaload, 1) := by decide +kernel
theorem dL_law_1098 : decode cL_law 1098 = .ok (.invokevirtual 151, 3) := by decide +kernel
theorem dL_law_1101 : decode cL_law 1101 = .ok (.istore 6, 2) := by decide +kernel
theorem dL_law_1103 : decode cL_law 1103 = .ok (.aload_n 2, 1) := by decide +kernel
theorem dL_law_1104 : decode cL_law 1104 = .ok (.invokevirtual 97, 3) := by decide +kernel
theorem dL_law_1107 : decode cL_law 1107 = .ok (.iload 5, 2) := by decide +kernel
theorem dL_law_1109 : decode cL_law 1109 = .ok (.if_icmp .eq 5, 3) := by decide +kernel
theorem dL_law_1112 : decode cL_law 1112 = .ok (.iconst 0, 1) := by decide +kernel
theorem dL_law_1113 : decode cL_law 1113 = .ok (.ireturn, 1) := by decide +kernel
theorem dL_law_1114 : decode cL_law 1114 = .ok (.iload 5, 2) := by decide +kernel
theorem dL_law_1116 : decode cL_law 1116 = .ok (.ifCond .ne 15, 3) := by decide +kernel
theorem dL_law_1119 : decode cL_law 1119 = .ok (.aload_n 3, 1) := by decide +kernel
theorem dL_law_1120 : decode cL_law 1120 = .ok (.iconst 0, 1) := by decide +kernel
theorem dL_law_1121 : decode cL_law 1121 = .ok (.laload, 1) := by decide +kernel
theorem dL_law_1122 : decode cL_law 1122 = .ok (.iload 6, 2) := by decide +kernel
theorem dL_law_1124 : decode cL_law 1124 = .ok (.i2l, 1) := by decide +kernel
theorem dL_law_1125 : decode cL_law 1125 = .ok (.lcmp, 1) := by decide +kernel
theorem dL_law_1126 : decode cL_law 1126 = .ok (.ifCond .eq 5, 3) := by decide +kernel
theorem dL_law_1129 : decode cL_law 1129 = .ok (.iconst 0, 1) := by decide +kernel
theorem dL_law_1130 : decode cL_law 1130 = .ok (.ireturn, 1) := by decide +kernel
theorem dL_law_1131 : decode cL_law 1131 = .ok (.goto 542, 3) := by decide +kernel
theorem dL_law_1134 : decode cL_law 1134 = .ok (.aload_n 1, 1) := by decide +kernel
theorem dL_law_1135 : decode cL_law 1135 = .ok (.aload_n 0, 1) := by decide +kernel
theorem dL_law_1136 : decode cL_law 1136 = .ok (.iload 4, 2) := by decide +kernel
theorem dL_law_1138 : decode cL_law 1138 = .ok (.iconst 1, 1) := by decide +kernel
theorem dL_law_1139 : decode cL_law 1139 = .ok (.iadd, 1) := by decide +kernel
theorem dL_law_1140 : decode cL_law 1140 = .ok (.iaload, 1) := by decide +kernel
theorem dL_law_1141 : decode cL_law 1141 = .ok (.aload_n 0, 1) := by decide +kernel
theorem dL_law_1142 : decode cL_law 1142 = .ok (.iload 4, 2) := by decide +kernel
theorem dL_law_1144 : decode cL_law 1144 = .ok (.iconst 2, 1) := by decide +kernel
theorem dL_law_1145 : decode cL_law 1145 = .ok (.iadd, 1) := by decide +kernel
theorem dL_law_1146 : decode cL_law 1146 = .ok (.iaload, 1) := by decide +kernel
theorem dL_law_1147 : decode cL_law 1147 = .ok (.aload_n 3, 1) := by decide +kernel
theorem dL_law_1148 : decode cL_law 1148 = .ok (.invokestatic 152, 3) := by decide +kernel
theorem dL_law_1151 : decode cL_law 1151 = .ok (.istore 5, 2) := by decide +kernel
theorem dL_law_1153 : decode cL_law 1153 = .ok (.aload_n 2, 1) := by decide +kernel
theorem dL_law_1154 : decode cL_law 1154 = .ok (.aload_n 0, 1) := by decide +kernel
theorem dL_law_1155 : decode cL_law 1155 = .ok (.iload 4, 2) := by decide +kernel
theorem dL_law_1157 : decode cL_law 1157 = .ok (.iconst 1, 1) := by decide +kernel
theorem dL_law_1158 : decode cL_law 1158 = .ok (.iadd, 1) := by decide +kernel
theorem dL_law_1159 : decode cL_law 1159 = .ok (.iaload, 1) := by decide +kernel
theorem dL_law_1160 : decode cL_law 1160 = .ok (.aload_n 0, 1) := by decide +kernel
theorem dL_law_1161 : decode cL_law 1161 = .ok (.iload 4, 2) := by decide +kernel
theorem dL_law_1163 : decode cL_law 1163 = .ok (.iconst 2, 1) := by decide +kernel
theorem dL_law_1164 : decode cL_law 1164 = .ok (.iadd, 1) := by decide +kernel
theorem dL_law_1165 : decode cL_law 1165 = .ok (.iaload, 1) := by decide +kernel
theorem dL_law_1166 : decode cL_law 1166 = .ok (.invokevirtual 154, 3) := by decide +kernel
theorem dL_law_1169 : decode cL_law 1169 = .ok (.istore 6, 2) := by decide +kernel
theorem dL_law_1171 : decode cL_law 1171 = .ok (.aload_n 2, 1) := by decide +kernel
theorem dL_law_1172 : decode cL_law 1172 = .ok (.invokevirtual 97, 3) := by decide +kernel
theorem dL_law_1175 : decode cL_law 1175 = .ok (.iload 5, 2) := by decide +kernel
theorem dL_law_1177 : decode cL_law 1177 = .ok (.if_icmp .eq 5, 3) := by decide +kernel
theorem dL_law_1180 : decode cL_law 1180 = .ok (.iconst 0, 1) := by decide +kernel
theorem dL_law_1181 : decode cL_law 1181 = .ok (.ireturn, 1) := by decide +kernel
theorem dL_law_1182 : decode cL_law 1182 = .ok (.iload 5, 2) := by decide +kernel
theorem dL_law_1184 : decode cL_law 1184 = .ok (.ifCond .ne 15, 3) := by decide +kernel
theorem dL_law_1187 : decode cL_law 1187 = .ok (.aload_n 3, 1) := by decide +kernel
theorem dL_law_1188 : decode cL_law 1188 = .ok (.iconst 0, 1) := by decide +kernel
theorem dL_law_1189 : decode cL_law 1189 = .ok (.laload, 1) := by decide +kernel
theorem dL_law_1190 : decode cL_law 1190 = .ok (.iload 6, 2) := by decide +kernel
theorem dL_law_1192 : decode cL_law 1192 = .ok (.i2l, 1) := by decide +kernel
theorem dL_law_1193 : decode cL_law 1193 = .ok (.lcmp, 1) := by decide +kernel
theorem dL_law_1194 : decode cL_law 1194 = .ok (.ifCond .eq 5, 3) := by decide +kernel
theorem dL_law_1197 : decode cL_law 1197 = .ok (.iconst 0, 1) := by decide +kernel
theorem dL_law_1198 : decode cL_law 1198 = .ok (.ireturn, 1) := by decide +kernel
theorem dL_law_1199 : decode cL_law 1199 = .ok (.goto 474, 3) := by decide +kernel
theorem dL_law_1202 : decode cL_law 1202 = .ok (.aload_n 1, 1) := by decide +kernel
theorem dL_law_1203 : decode cL_law 1203 = .ok (.aload_n 0, 1) := by decide +kernel
theorem dL_law_1204 : decode cL_law 1204 = .ok (.iload 4, 2) := by decide +kernel
theorem dL_law_1206 : decode cL_law 1206 = .ok (.iconst 1, 1) := by decide +kernel
theorem dL_law_1207 : decode cL_law 1207 = .ok (.iadd, 1) := by decide +kernel
theorem dL_law_1208 : decode cL_law 1208 = .ok (.iaload, 1) := by decide +kernel
theorem dL_law_1209 : decode cL_law 1209 = .ok (.aload_n 0, 1) := by decide +kernel
theorem dL_law_1210 : decode cL_law 1210 = .ok (.iload 4, 2) := by decide +kernel
theorem dL_law_1212 : decode cL_law 1212 = .ok (.iconst 2, 1) := by decide +kernel
theorem dL_law_1213 : decode cL_law 1213 = .ok (.iadd, 1) := by decide +kernel
theorem dL_law_1214 : decode cL_law 1214 = .ok (.iaload, 1) := by decide +kernel
theorem dL_law_1215 : decode cL_law 1215 = .ok (.aload_n 3, 1) := by decide +kernel
theorem dL_law_1216 : decode cL_law 1216 = .ok (.invokestatic 155, 3) := by decide +kernel
theorem dL_law_1219 : decode cL_law 1219 = .ok (.istore 5, 2) := by decide +kernel
theorem dL_law_1221 : decode cL_law 1221 = .ok (.aload_n 2, 1) := by decide +kernel
theorem dL_law_1222 : decode cL_law 1222 = .ok (.aload_n 0, 1) := by decide +kernel
theorem dL_law_1223 : decode cL_law 1223 = .ok (.iload 4, 2) := by decide +kernel
theorem dL_law_1225 : decode cL_law 1225 = .ok (.iconst 1, 1) := by decide +kernel
theorem dL_law_1226 : decode cL_law 1226 = .ok (.iadd, 1) := by decide +kernel
theorem dL_law_1227 : decode cL_law 1227 = .ok (.iaload, 1) := by decide +kernel
theorem dL_law_1228 : decode cL_law 1228 = .ok (.aload_n 0, 1) := by decide +kernel
theorem dL_law_1229 : decode cL_law 1229 = .ok (.iload 4, 2) := by decide +kernel
theorem dL_law_1231 : decode cL_law 1231 = .ok (.iconst 2, 1) := by decide +kernel
theorem dL_law_1232 : decode cL_law 1232 = .ok (.iadd, 1) := by decide +kernel
theorem dL_law_1233 : decode cL_law 1233 = .ok (.iaload, 1) := by decide +kernel
theorem dL_law_1234 : decode cL_law 1234 = .ok (.invokevirtual 157, 3) := by decide +kernel
theorem dL_law_1237 : decode cL_law 1237 = .ok (.istore 6, 2) := by decide +kernel
theorem dL_law_1239 : decode cL_law 1239 = .ok (.aload_n 2, 1) := by decide +kernel
theorem dL_law_1240 : decode cL_law 1240 = .ok (.invokevirtual 97, 3) := by decide +kernel
theorem dL_law_1243 : decode cL_law 1243 = .ok (.iload 5, 2) := by decide +kernel
theorem dL_law_1245 : decode cL_law 1245 = .ok (.if_icmp .eq 5, 3) := by decide +kernel
theorem dL_law_1248 : decode cL_law 1248 = .ok (.iconst 0, 1) := by decide +kernel
theorem dL_law_1249 : decode cL_law 1249 = .ok (.ireturn, 1) := by decide +kernel
theorem dL_law_1250 : decode cL_law 1250 = .ok (.iload 5, 2) := by decide +kernel
theorem dL_law_1252 : decode cL_law 1252 = .ok (.ifCond .ne 15, 3) := by decide +kernel
theorem dL_law_1255 : decode cL_law 1255 = .ok (.aload_n 3, 1) := by decide +kernel
theorem dL_law_1256 : decode cL_law 1256 = .ok (.iconst 0, 1) := by decide +kernel
theorem dL_law_1257 : decode cL_law 1257 = .ok (.laload, 1) := by decide +kernel
theorem dL_law_1258 : decode cL_law 1258 = .ok (.iload 6, 2) := by decide +kernel
theorem dL_law_1260 : decode cL_law 1260 = .ok (.i2l, 1) := by decide +kernel
theorem dL_law_1261 : decode cL_law 1261 = .ok (.lcmp, 1) := by decide +kernel
theorem dL_law_1262 : decode cL_law 1262 = .ok (.ifCond .eq 5, 3) := by decide +kernel
theorem dL_law_1265 : decode cL_law 1265 = .ok (.iconst 0, 1) := by decide +kernel
theorem dL_law_1266 : decode cL_law 1266 = .ok (.ireturn, 1) := by decide +kernel
theorem dL_law_1267 : decode cL_law 1267 = .ok (.goto 406, 3) := by decide +kernel
theorem dL_law_1270 : decode cL_law 1270 = .ok (.aload_n 1, 1) := by decide +kernel
theorem dL_law_1271 : decode cL_law 1271 = .ok (.aload_n 0, 1) := by decide +kernel
theorem dL_law_1272 : decode cL_law 1272 = .ok (.iload 4, 2) := by decide +kernel
theorem dL_law_1274 : decode cL_law 1274 = .ok (.iconst 1, 1) := by decide +kernel
theorem dL_law_1275 : decode cL_law 1275 = .ok (.iadd, 1) := by decide +kernel
theorem dL_law_1276 : decode cL_law 1276 = .ok (.iaload, 1) := by decide +kernel
theorem dL_law_1277 : decode cL_law 1277 = .ok (.aload_n 3, 1) := by decide +kernel
theorem dL_law_1278 : decode cL_law 1278 = .ok (.invokestatic 158, 3) := by decide +kernel
theorem dL_law_1281 : decode cL_law 1281 = .ok (.istore 5, 2) := by decide +kernel
theorem dL_law_1283 : decode cL_law 1283 = .ok (.aload_n 2, 1) := by decide +kernel
theorem dL_law_1284 : decode cL_law 1284 = .ok (.aload_n 0, 1) := by decide +kernel
theorem dL_law_1285 : decode cL_law 1285 = .ok (.iload 4, 2) := by decide +kernel
theorem dL_law_1287 : decode cL_law 1287 = .ok (.iconst 1, 1) := by decide +kernel
theorem dL_law_1288 : decode cL_law 1288 = .ok (.iadd, 1) := by decide +kernel
theorem dL_law_1289 : decode cL_law 1289 = .ok (.iaload, 1) := by decide +kernel
theorem dL_law_1290 : decode cL_law 1290 = .ok (.invokevirtual 160, 3) := by decide +kernel
theorem dL_law_1293 : decode cL_law 1293 = .ok (.istore 6, 2) := by decide +kernel
theorem dL_law_1295 : decode cL_law 1295 = .ok (.aload_n 2, 1) := by decide +kernel
theorem dL_law_1296 : decode cL_law 1296 = .ok (.invokevirtual 97, 3) := by decide +kernel
theorem dL_law_1299 : decode cL_law 1299 = .ok (.iload 5, 2) := by decide +kernel
theorem dL_law_1301 : decode cL_law 1301 = .ok (.if_icmp .eq 5, 3) := by decide +kernel
theorem dL_law_1304 : decode cL_law 1304 = .ok (.iconst 0, 1) := by decide +kernel
theorem dL_law_1305 : decode cL_law 1305 = .ok (.ireturn, 1) := by decide +kernel
theorem dL_law_1306 : decode cL_law 1306 = .ok (.iload 5, 2) := by decide +kernel
theorem dL_law_1308 : decode cL_law 1308 = .ok (.ifCond .ne 15, 3) := by decide +kernel
theorem dL_law_1311 : decode cL_law 1311 = .ok (.aload_n 3, 1) := by decide +kernel
theorem dL_law_1312 : decode cL_law 1312 = .ok (.iconst 0, 1) := by decide +kernel
theorem dL_law_1313 : decode cL_law 1313 = .ok (.laload, 1) := by decide +kernel
theorem dL_law_1314 : decode cL_law 1314 = .ok (.iload 6, 2) := by decide +kernel
theorem dL_law_1316 : decode cL_law 1316 = .ok (.i2l, 1) := by decide +kernel
theorem dL_law_1317 : decode cL_law 1317 = .ok (.lcmp, 1) := by decide +kernel
theorem dL_law_1318 : decode cL_law 1318 = .ok (.ifCond .eq 5, 3) := by decide +kernel
theorem dL_law_1321 : decode cL_law 1321 = .ok (.iconst 0, 1) := by decide +kernel
theorem dL_law_1322 : decode cL_law 1322 = .ok (.ireturn, 1) := by decide +kernel
theorem dL_law_1323 : decode cL_law 1323 = .ok (.goto 350, 3) := by decide +kernel
theorem dL_law_1326 : decode cL_law 1326 = .ok (.aload_n 1, 1) := by decide +kernel
theorem dL_law_1327 : decode cL_law 1327 = .ok (.aload_n 0, 1) := by decide +kernel
theorem dL_law_1328 : decode cL_law 1328 = .ok (.iload 4, 2) := by decide +kernel
theorem dL_law_1330 : decode cL_law 1330 = .ok (.iconst 1, 1) := by decide +kernel
theorem dL_law_1331 : decode cL_law 1331 = .ok (.iadd, 1) := by decide +kernel
theorem dL_law_1332 : decode cL_law 1332 = .ok (.iaload, 1) := by decide +kernel
theorem dL_law_1333 : decode cL_law 1333 = .ok (.aload_n 3, 1) := by decide +kernel
theorem dL_law_1334 : decode cL_law 1334 = .ok (.invokestatic 161, 3) := by decide +kernel
theorem dL_law_1337 : decode cL_law 1337 = .ok (.istore 5, 2) := by decide +kernel
theorem dL_law_1339 : decode cL_law 1339 = .ok (.aload_n 2, 1) := by decide +kernel
theorem dL_law_1340 : decode cL_law 1340 = .ok (.aload_n 0, 1) := by decide +kernel
theorem dL_law_1341 : decode cL_law 1341 = .ok (.iload 4, 2) := by decide +kernel
theorem dL_law_1343 : decode cL_law 1343 = .ok (.iconst 1, 1) := by decide +kernel
theorem dL_law_1344 : decode cL_law 1344 = .ok (.iadd, 1) := by decide +kernel
theorem dL_law_1345 : decode cL_law 1345 = .ok (.iaload, 1) := by decide +kernel
theorem dL_law_1346 : decode cL_law 1346 = .ok (.invokevirtual 163, 3) := by decide +kernel
theorem dL_law_1349 : decode cL_law 1349 = .ok (.istore 6, 2) := by decide +kernel
theorem dL_law_1351 : decode cL_law 1351 = .ok (.aload_n 2, 1) := by decide +kernel
theorem dL_law_1352 : decode cL_law 1352 = .ok (.invokevirtual 97, 3) := by decide +kernel
theorem dL_law_1355 : decode cL_law 1355 = .ok (.iload 5, 2) := by decide +kernel
theorem dL_law_1357 : decode cL_law 1357 = .ok (.if_icmp .eq 5, 3) := by decide +kernel
theorem dL_law_1360 : decode cL_law 1360 = .ok (.iconst 0, 1) := by decide +kernel
theorem dL_law_1361 : decode cL_law 1361 = .ok (.ireturn, 1) := by decide +kernel
theorem dL_law_1362 : decode cL_law 1362 = .ok (.iload 5, 2) := by decide +kernel
theorem dL_law_1364 : decode cL_law 1364 = .ok (.ifCond .ne 15, 3) := by decide +kernel
theorem dL_law_1367 : decode cL_law 1367 = .ok (.aload_n 3, 1) := by decide +kernel
theorem dL_law_1368 : decode cL_law 1368 = .ok (.iconst 0, 1) := by decide +kernel
theorem dL_law_1369 : decode cL_law 1369 = .ok (.laload, 1) := by decide +kernel
theorem dL_law_1370 : decode cL_law 1370 = .ok (.iload 6, 2) := by decide +kernel
theorem dL_law_1372 : decode cL_law 1372 = .ok (.i2l, 1) := by decide +kernel
theorem dL_law_1373 : decode cL_law 1373 = .ok (.lcmp, 1) := by decide +kernel
theorem dL_law_1374 : decode cL_law 1374 = .ok (.ifCond .eq 5, 3) := by decide +kernel
theorem dL_law_1377 : decode cL_law 1377 = .ok (.iconst 0, 1) := by decide +kernel
theorem dL_law_1378 : decode cL_law 1378 = .ok (.ireturn, 1) := by decide +kernel
theorem dL_law_1379 : decode cL_law 1379 = .ok (.goto 294, 3) := by decide +kernel
theorem dL_law_1382 : decode cL_law 1382 = .ok (.aload_n 1, 1) := by decide +kernel
theorem dL_law_1383 : decode cL_law 1383 = .ok (.aload_n 0, 1) := by decide +kernel
theorem dL_law_1384 : decode cL_law 1384 = .ok (.iload 4, 2) := by decide +kernel
theorem dL_law_1386 : decode cL_law 1386 = .ok (.iconst 1, 1) := by decide +kernel
theorem dL_law_1387 : decode cL_law 1387 = .ok (.iadd, 1) := by decide +kernel
theorem dL_law_1388 : decode cL_law 1388 = .ok (.iaload, 1) := by decide +kernel
theorem dL_law_1389 : decode cL_law 1389 = .ok (.aload_n 0, 1) := by decide +kernel
theorem dL_law_1390 : decode cL_law 1390 = .ok (.iload 4, 2) := by decide +kernel
theorem dL_law_1392 : decode cL_law 1392 = .ok (.iconst 2, 1) := by decide +kernel
theorem dL_law_1393 : decode cL_law 1393 = .ok (.iadd, 1) := by decide +kernel
theorem dL_law_1394 : decode cL_law 1394 = .ok (.iaload, 1) := by decide +kernel
theorem dL_law_1395 : decode cL_law 1395 = .ok (.aload_n 3, 1) := by decide +kernel
theorem dL_law_1396 : decode cL_law 1396 = .ok (.invokestatic 164, 3) := by decide +kernel
theorem dL_law_1399 : decode cL_law 1399 = .ok (.istore 5, 2) := by decide +kernel
theorem dL_law_1401 : decode cL_law 1401 = .ok (.aload_n 2, 1) := by decide +kernel
theorem dL_law_1402 : decode cL_law 1402 = .ok (.aload_n 0, 1) := by decide +kernel
theorem dL_law_1403 : decode cL_law 1403 = .ok (.iload 4, 2) := by decide +kernel
theorem dL_law_1405 : decode cL_law 1405 = .ok (.iconst 1, 1) := by decide +kernel
theorem dL_law_1406 : decode cL_law 1406 = .ok (.iadd, 1) := by decide +kernel
theorem dL_law_1407 : decode cL_law 1407 = .ok (.iaload, 1) := by decide +kernel
theorem dL_law_1408 : decode cL_law 1408 = .ok (.aload_n 0, 1) := by decide +kernel
theorem dL_law_1409 : decode cL_law 1409 = .ok (.iload 4, 2) := by decide +kernel
theorem dL_law_1411 : decode cL_law 1411 = .ok (.iconst 2, 1) := by decide +kernel
theorem dL_law_1412 : decode cL_law 1412 = .ok (.iadd, 1) := by decide +kernel
theorem dL_law_1413 : decode cL_law 1413 = .ok (.iaload, 1) := by decide +kernel
theorem dL_law_1414 : decode cL_law 1414 = .ok (.invokevirtual 166, 3) := by decide +kernel
theorem dL_law_1417 : decode cL_law 1417 = .ok (.istore 6, 2) := by decide +kernel
theorem dL_law_1419 : decode cL_law 1419 = .ok (.aload_n 2, 1) := by decide +kernel
theorem dL_law_1420 : decode cL_law 1420 = .ok (.invokevirtual 97, 3) := by decide +kernel
theorem dL_law_1423 : decode cL_law 1423 = .ok (.iload 5, 2) := by decide +kernel
theorem dL_law_1425 : decode cL_law 1425 = .ok (.if_icmp .eq 5, 3) := by decide +kernel
theorem dL_law_1428 : decode cL_law 1428 = .ok (.iconst 0, 1) := by decide +kernel
theorem dL_law_1429 : decode cL_law 1429 = .ok (.ireturn, 1) := by decide +kernel
theorem dL_law_1430 : decode cL_law 1430 = .ok (.iload 5, 2) := by decide +kernel
theorem dL_law_1432 : decode cL_law 1432 = .ok (.ifCond .ne 15, 3) := by decide +kernel
theorem dL_law_1435 : decode cL_law 1435 = .ok (.aload_n 3, 1) := by decide +kernel
theorem dL_law_1436 : decode cL_law 1436 = .ok (.iconst 0, 1) := by decide +kernel
theorem dL_law_1437 : decode cL_law 1437 = .ok (.laload, 1) := by decide +kernel
theorem dL_law_1438 : decode cL_law 1438 = .ok (.iload 6, 2) := by decide +kernel
theorem dL_law_1440 : decode cL_law 1440 = .ok (.i2l, 1) := by decide +kernel
theorem dL_law_1441 : decode cL_law 1441 = .ok (.lcmp, 1) := by decide +kernel
theorem dL_law_1442 : decode cL_law 1442 = .ok (.ifCond .eq 5, 3) := by decide +kernel
theorem dL_law_1445 : decode cL_law 1445 = .ok (.iconst 0, 1) := by decide +kernel
theorem dL_law_1446 : decode cL_law 1446 = .ok (.ireturn, 1) := by decide +kernel
theorem dL_law_1447 : decode cL_law 1447 = .ok (.goto 226, 3) := by decide +kernel
theorem dL_law_1450 : decode cL_law 1450 = .ok (.aload_n 1, 1) := by decide +kernel
theorem dL_law_1451 : decode cL_law 1451 = .ok (.aload_n 0, 1) := by decide +kernel
theorem dL_law_1452 : decode cL_law 1452 = .ok (.iload 4, 2) := by decide +kernel
theorem dL_law_1454 : decode cL_law 1454 = .ok (.iconst 1, 1) := by decide +kernel
theorem dL_law_1455 : decode cL_law 1455 = .ok (.iadd, 1) := by decide +kernel
theorem dL_law_1456 : decode cL_law 1456 = .ok (.iaload, 1) := by decide +kernel
theorem dL_law_1457 : decode cL_law 1457 = .ok (.aload_n 3, 1) := by decide +kernel
theorem dL_law_1458 : decode cL_law 1458 = .ok (.invokestatic 167, 3) := by decide +kernel
theorem dL_law_1461 : decode cL_law 1461 = .ok (.istore 5, 2) := by decide +kernel
theorem dL_law_1463 : decode cL_law 1463 = .ok (.aload_n 2, 1) := by decide +kernel
theorem dL_law_1464 : decode cL_law 1464 = .ok (.aload_n 0, 1) := by decide +kernel
theorem dL_law_1465 : decode cL_law 1465 = .ok (.iload 4, 2) := by decide +kernel
theorem dL_law_1467 : decode cL_law 1467 = .ok (.iconst 1, 1) := by decide +kernel
theorem dL_law_1468 : decode cL_law 1468 = .ok (.iadd, 1) := by decide +kernel
theorem dL_law_1469 : decode cL_law 1469 = .ok (.iaload, 1) := by decide +kernel
theorem dL_law_1470 : decode cL_law 1470 = .ok (.invokevirtual 169, 3) := by decide +kernel
theorem dL_law_1473 : decode cL_law 1473 = .ok (.istore 6, 2) := by decide +kernel
theorem dL_law_1475 : decode cL_law 1475 = .ok (.aload_n 2, 1) := by decide +kernel
theorem dL_law_1476 : decode cL_law 1476 = .ok (.invokevirtual 97, 3) := by decide +kernel
theorem dL_law_1479 : decode cL_law 1479 = .ok (.iload 5, 2) := by decide +kernel
theorem dL_law_1481 : decode cL_law 1481 = .ok (.if_icmp .eq 5, 3) := by decide +kernel
theorem dL_law_1484 : decode cL_law 1484 = .ok (.iconst 0, 1) := by decide +kernel
theorem dL_law_1485 : decode cL_law 1485 = .ok (.ireturn, 1) := by decide +kernel
theorem dL_law_1486 : decode cL_law 1486 = .ok (.iload 5, 2) := by decide +kernel
theorem dL_law_1488 : decode cL_law 1488 = .ok (.ifCond .ne 15, 3) := by decide +kernel
theorem dL_law_1491 : decode cL_law 1491 = .ok (.aload_n 3, 1) := by decide +kernel
theorem dL_law_1492 : decode cL_law 1492 = .ok (.iconst 0, 1) := by decide +kernel
theorem dL_law_1493 : decode cL_law 1493 = .ok (.laload, 1) := by decide +kernel
theorem dL_law_1494 : decode cL_law 1494 = .ok (.iload 6, 2) := by decide +kernel
theorem dL_law_1496 : decode cL_law 1496 = .ok (.i2l, 1) := by decide +kernel
theorem dL_law_1497 : decode cL_law 1497 = .ok (.lcmp, 1) := by decide +kernel
theorem dL_law_1498 : decode cL_law 1498 = .ok (.ifCond .eq 5, 3) := by decide +kernel
theorem dL_law_1501 : decode cL_law 1501 = .ok (.iconst 0, 1) := by decide +kernel
theorem dL_law_1502 : decode cL_law 1502 = .ok (.ireturn, 1) := by decide +kernel
theorem dL_law_1503 : decode cL_law 1503 = .ok (.goto 170, 3) := by decide +kernel
theorem dL_law_1506 : decode cL_law 1506 = .ok (.aload_n 1, 1) := by decide +kernel
theorem dL_law_1507 : decode cL_law 1507 = .ok (.aload_n 0, 1) := by decide +kernel
theorem dL_law_1508 : decode cL_law 1508 = .ok (.iload 4, 2) := by decide +kernel
theorem dL_law_1510 : decode cL_law 1510 = .ok (.iconst 1, 1) := by decide +kernel
theorem dL_law_1511 : decode cL_law 1511 = .ok (.iadd, 1) := by decide +kernel
theorem dL_law_1512 : decode cL_law 1512 = .ok (.iaload, 1) := by decide +kernel
theorem dL_law_1513 : decode cL_law 1513 = .ok (.aload_n 3, 1) := by decide +kernel
theorem dL_law_1514 : decode cL_law 1514 = .ok (.invokestatic 170, 3) := by decide +kernel
theorem dL_law_1517 : decode cL_law 1517 = .ok (.istore 5, 2) := by decide +kernel
theorem dL_law_1519 : decode cL_law 1519 = .ok (.aload_n 2, 1) := by decide +kernel
theorem dL_law_1520 : decode cL_law 1520 = .ok (.aload_n 0, 1) := by decide +kernel
theorem dL_law_1521 : decode cL_law 1521 = .ok (.iload 4, 2) := by decide +kernel
theorem dL_law_1523 : decode cL_law 1523 = .ok (.iconst 1, 1) := by decide +kernel
theorem dL_law_1524 : decode cL_law 1524 = .ok (.iadd, 1) := by decide +kernel
theorem dL_law_1525 : decode cL_law 1525 = .ok (.iaload, 1) := by decide +kernel
theorem dL_law_1526 : decode cL_law 1526 = .ok (.invokevirtual 172, 3) := by decide +kernel
theorem dL_law_1529 : decode cL_law 1529 = .ok (.istore 6, 2) := by decide +kernel
theorem dL_law_1531 : decode cL_law 1531 = .ok (.aload_n 2, 1) := by decide +kernel
theorem dL_law_1532 : decode cL_law 1532 = .ok (.invokevirtual 97, 3) := by decide +kernel
theorem dL_law_1535 : decode cL_law 1535 = .ok (.iload 5, 2) := by decide +kernel
theorem dL_law_1537 : decode cL_law 1537 = .ok (.if_icmp .eq 5, 3) := by decide +kernel
theorem dL_law_1540 : decode cL_law 1540 = .ok (.iconst 0, 1) := by decide +kernel
theorem dL_law_1541 : decode cL_law 1541 = .ok (.ireturn, 1) := by decide +kernel
theorem dL_law_1542 : decode cL_law 1542 = .ok (.iload 5, 2) := by decide +kernel
theorem dL_law_1544 : decode cL_law 1544 = .ok (.ifCond .ne 15, 3) := by decide +kernel
theorem dL_law_1547 : decode cL_law 1547 = .ok (.aload_n 3, 1) := by decide +kernel
theorem dL_law_1548 : decode cL_law 1548 = .ok (.iconst 0, 1) := by decide +kernel
theorem dL_law_1549 : decode cL_law 1549 = .ok (.laload, 1) := by decide +kernel
theorem dL_law_1550 : decode cL_law 1550 = .ok (.iload 6, 2) := by decide +kernel
theorem dL_law_1552 : decode cL_law 1552 = .ok (.i2l, 1) := by decide +kernel
theorem dL_law_1553 : decode cL_law 1553 = .ok (.lcmp, 1) := by decide +kernel
theorem dL_law_1554 : decode cL_law 1554 = .ok (.ifCond .eq 5, 3) := by decide +kernel
theorem dL_law_1557 : decode cL_law 1557 = .ok (.iconst 0, 1) := by decide +kernel
theorem dL_law_1558 : decode cL_law 1558 = .ok (.ireturn, 1) := by decide +kernel
theorem dL_law_1559 : decode cL_law 1559 = .ok (.goto 114, 3) := by decide +kernel
theorem dL_law_1562 : decode cL_law 1562 = .ok (.aload_n 1, 1) := by decide +kernel
theorem dL_law_1563 : decode cL_law 1563 = .ok (.aload_n 0, 1) := by decide +kernel
theorem dL_law_1564 : decode cL_law 1564 = .ok (.iload 4, 2) := by decide +kernel
theorem dL_law_1566 : decode cL_law 1566 = .ok (.iconst 1, 1) := by decide +kernel
theorem dL_law_1567 : decode cL_law 1567 = .ok (.iadd, 1) := by decide +kernel
theorem dL_law_1568 : decode cL_law 1568 = .ok (.iaload, 1) := by decide +kernel
theorem dL_law_1569 : decode cL_law 1569 = .ok (.aload_n 3, 1) := by decide +kernel
theorem dL_law_1570 : decode cL_law 1570 = .ok (.invokestatic 173, 3) := by decide +kernel
theorem dL_law_1573 : decode cL_law 1573 = .ok (.istore 5, 2) := by decide +kernel
theorem dL_law_1575 : decode cL_law 1575 = .ok (.aload_n 2, 1) := by decide +kernel
theorem dL_law_1576 : decode cL_law 1576 = .ok (.aload_n 0, 1) := by decide +kernel
theorem dL_law_1577 : decode cL_law 1577 = .ok (.iload 4, 2) := by decide +kernel
theorem dL_law_1579 : decode cL_law 1579 = .ok (.iconst 1, 1) := by decide +kernel
theorem dL_law_1580 : decode cL_law 1580 = .ok (.iadd, 1) := by decide +kernel
theorem dL_law_1581 : decode cL_law 1581 = .ok (.iaload, 1) := by decide +kernel
theorem dL_law_1582 : decode cL_law 1582 = .ok (.invokevirtual 175, 3) := by decide +kernel
theorem dL_law_1585 : decode cL_law 1585 = .ok (.istore 6, 2) := by decide +kernel
theorem dL_law_1587 : decode cL_law 1587 = .ok (.aload_n 2, 1) := by decide +kernel
theorem dL_law_1588 : decode cL_law 1588 = .ok (.invokevirtual 97, 3) := by decide +kernel
theorem dL_law_1591 : decode cL_law 1591 = .ok (.iload 5, 2) := by decide +kernel
theorem dL_law_1593 : decode cL_law 1593 = .ok (.if_icmp .eq 5, 3) := by decide +kernel
theorem dL_law_1596 : decode cL_law 1596 = .ok (.iconst 0, 1) := by decide +kernel
theorem dL_law_1597 : decode cL_law 1597 = .ok (.ireturn, 1) := by decide +kernel
theorem dL_law_1598 : decode cL_law 1598 = .ok (.iload 5, 2) := by decide +kernel
theorem dL_law_1600 : decode cL_law 1600 = .ok (.ifCond .ne 15, 3) := by decide +kernel
theorem dL_law_1603 : decode cL_law 1603 = .ok (.aload_n 3, 1) := by decide +kernel
theorem dL_law_1604 : decode cL_law 1604 = .ok (.iconst 0, 1) := by decide +kernel
theorem dL_law_1605 : decode cL_law 1605 = .ok (.laload, 1) := by decide +kernel
theorem dL_law_1606 : decode cL_law 1606 = .ok (.iload 6, 2) := by decide +kernel
theorem dL_law_1608 : decode cL_law 1608 = .ok (.i2l, 1) := by decide +kernel
theorem dL_law_1609 : decode cL_law 1609 = .ok (.lcmp, 1) := by decide +kernel
theorem dL_law_1610 : decode cL_law 1610 = .ok (.ifCond .eq 5, 3) := by decide +kernel
theorem dL_law_1613 : decode cL_law 1613 = .ok (.iconst 0, 1) := by decide +kernel
theorem dL_law_1614 : decode cL_law 1614 = .ok (.ireturn, 1) := by decide +kernel
theorem dL_law_1615 : decode cL_law 1615 = .ok (.goto 58, 3) := by decide +kernel
theorem dL_law_1618 : decode cL_law 1618 = .ok (.aload_n 1, 1) := by decide +kernel
theorem dL_law_1619 : decode cL_law 1619 = .ok (.invokevirtual 176, 3) := by decide +kernel
theorem dL_law_1622 : decode cL_law 1622 = .ok (.dstore 5, 2) := by decide +kernel
theorem dL_law_1624 : decode cL_law 1624 = .ok (.aload_n 2, 1) := by decide +kernel
theorem dL_law_1625 : decode cL_law 1625 = .ok (.invokevirtual 180, 3) := by decide +kernel
theorem dL_law_1628 : decode cL_law 1628 = .ok (.dstore 7, 2) := by decide +kernel
theorem dL_law_1630 : decode cL_law 1630 = .ok (.dload 5, 2) := by decide +kernel
theorem dL_law_1632 : decode cL_law 1632 = .ok (.dload 7, 2) := by decide +kernel
theorem dL_law_1634 : decode cL_law 1634 = .ok (.dcmp .l, 1) := by decide +kernel
theorem dL_law_1635 : decode cL_law 1635 = .ok (.ifCond .eq 21, 3) := by decide +kernel
theorem dL_law_1638 : decode cL_law 1638 = .ok (.dload 5, 2) := by decide +kernel
theorem dL_law_1640 : decode cL_law 1640 = .ok (.dload 5, 2) := by decide +kernel
theorem dL_law_1642 : decode cL_law 1642 = .ok (.dcmp .l, 1) := by decide +kernel
theorem dL_law_1643 : decode cL_law 1643 = .ok (.ifCond .eq 11, 3) := by decide +kernel
theorem dL_law_1646 : decode cL_law 1646 = .ok (.dload 7, 2) := by decide +kernel
theorem dL_law_1648 : decode cL_law 1648 = .ok (.dload 7, 2) := by decide +kernel
theorem dL_law_1650 : decode cL_law 1650 = .ok (.dcmp .l, 1) := by decide +kernel
theorem dL_law_1651 : decode cL_law 1651 = .ok (.ifCond .ne 5, 3) := by decide +kernel
theorem dL_law_1654 : decode cL_law 1654 = .ok (.iconst 0, 1) := by decide +kernel
theorem dL_law_1655 : decode cL_law 1655 = .ok (.ireturn, 1) := by decide +kernel
theorem dL_law_1656 : decode cL_law 1656 = .ok (.goto 17, 3) := by decide +kernel
theorem dL_law_1659 : decode cL_law 1659 = .ok (.aload_n 1, 1) := by decide +kernel
theorem dL_law_1660 : decode cL_law 1660 = .ok (.invokevirtual 181, 3) := by decide +kernel
theorem dL_law_1663 : decode cL_law 1663 = .ok (.aload_n 2, 1) := by decide +kernel
theorem dL_law_1664 : decode cL_law 1664 = .ok (.invokevirtual 185, 3) := by decide +kernel
theorem dL_law_1667 : decode cL_law 1667 = .ok (.lcmp, 1) := by decide +kernel
theorem dL_law_1668 : decode cL_law 1668 = .ok (.ifCond .eq 5, 3) := by decide +kernel
theorem dL_law_1671 : decode cL_law 1671 = .ok (.iconst 0, 1) := by decide +kernel
theorem dL_law_1672 : decode cL_law 1672 = .ok (.ireturn, 1) := by decide +kernel
theorem dL_law_1673 : decode cL_law 1673 = .ok (.iinc 4 6, 3) := by decide +kernel
theorem dL_law_1676 : decode cL_law 1676 = .ok (.goto (-1653), 3) := by decide +kernel
theorem dL_law_1679 : decode cL_law 1679 = .ok (.iconst 1, 1) := by decide +kernel
theorem dL_law_1680 : decode cL_law 1680 = .ok (.ireturn, 1) := by decide +kernel
end
section
/-! THE MEMORY: every object and array that the law makes has a number (in the order of making); it lies at the address base + number. A memory M says what each holds: ints, references (by number), longs. -/
abbrev Mem : Type := (Nat → Nat → Int32) × (Nat → Nat → Option Nat) × (Nat → Nat → Int64)
def uI (M : Mem) (i k : Nat) (v : Int32) : Mem := (fun j l => if j = i ∧ l = k then v else M.1 j l, M.2.1, M.2.2)
def uR (M : Mem) (i k : Nat) (v : Option Nat) : Mem := (M.1, fun j l => if j = i ∧ l = k then v else M.2.1 j l, M.2.2)
def uL (M : Mem) (i k : Nat) (v : Int64) : Mem := (M.1, M.2.1, fun j l => if j = i ∧ l = k then v else M.2.2 j l)
/-- the object i as it is made -/
def uN (M : Mem) (i : Nat) : Mem := (fun j l => if j = i then 0 else M.1 j l, fun j l => if j = i then none else M.2.1 j l, fun j l => if j = i then 0 else M.2.2 j l)
def bI (z : Bool) : Int32 := if z then 1 else 0
theorem bI_t : bI true = 1 := rfl
theorem bI_f : bI false = 0 := rfl
theorem bI_eq0 (z : Bool) : (bI z = 0) = (z = false) := by cases z <;> simp [bI]
theorem bI_ne (z : Bool) : (bI z != 0) = z := by cases z <;> rfl
theorem bI_nar (z : Bool) : narrow .boolean (.int (bI z)) = .int (bI z) := by cases z <;> rfl
theorem bI_fit (z : Bool) : fits .boolean (.int (bI z)) = true := by cases z <;> rfl
-- kinds: 0 Billet, 1 Die, 2 Heat, 3 Job, 4 JobText, 5 Shop, 6 ForgeHeats, 7 ForgeHeatsModel; 8 int[], 9 char[], 10 long[], 11 Billet[], 12 Die[], 13 Heat[], 14 Job[], 15 Shop[]
abbrev m_cl : List vw_C := [(RX0, TX0, 4), (RX1, TX1, 6), (RX2, TX2, 5), (RX3, TX3, 8), (RX4, TX4, 9), (RX5, TX5, 19), (RX6, TX6, 5), (RX7, TX7, 12)]
def m_ft (κ : Nat) : Nat → FieldType := match κ with
  | 0 => tyX0
  | 1 => tyX1
  | 2 => tyX2
  | 3 => tyX3
  | 4 => tyX4
  | 5 => tyX5
  | 6 => tyX6
  | _ => tyX7
def m_nf (κ : Nat) : Nat := match κ with
  | 0 => 4
  | 1 => 6
  | 2 => 5
  | 3 => 8
  | 4 => 9
  | 5 => 19
  | 6 => 5
  | _ => 12
def m_tys (cA : Nat → ClassId) : List (ClassId × FieldType) := [(cA 8, .int), (cA 9, .char), (cA 10, .long), (cA 11, .object RX0), (cA 12, .object RX1), (cA 13, .object RX2), (cA 14, .object RX3), (cA 15, .object RX5)]
/-- the 34 things of a shop: itself, heats, dies, jobs, furnace, press, what is found where nothing is -/
def m_sk (r : Nat) : Nat := if r = 0 then 5 else if r = 1 then 13 else if r < 6 then 2 else if r = 6 then 12 else if r < 12 then 1 else if r = 12 then 14 else if r < 23 then 3 else if r = 23 then 11 else if r < 31 then 0 else if r = 31 then 2 else if r = 32 then 1 else 3
def m_sl (r : Nat) : Nat := if r = 1 then 4 else if r = 6 then 5 else if r = 12 then 10 else 6
/-- the kind of the thing with a number -/
def m_kd (i : Nat) : Nat := if i = 0 then 6 else if i < 69 then m_sk ((i - 1) % 34) else if i = 69 then 15 else if i < 274 then m_sk ((i - 70) % 34) else if i = 274 then 4 else if i = 275 then 9 else if i = 276 then 7 else if i < 282 then 8 else 10
def m_len (i : Nat) : Nat := if i < 69 then m_sl ((i - 1) % 34) else if i = 69 then 6 else if i < 274 then m_sl ((i - 70) % 34) else if i = 275 then 60 else if i = 279 then 948 else if i = 280 then 60 else if i = 281 then 96 else if i = 282 then 1 else 158
def m_tp (n i κ : Nat) : Prop := i < n ∧ m_kd i = κ
def m_fv (b : Nat) (M : Mem) (i k : Nat) (ty : FieldType) : Value := match ty with
  | .int => .int (M.1 i k)
  | .boolean => .int (bI (M.1 i k != 0))
  | .long => .long (M.2.2 i k)
  | _ => va_rf ((M.2.1 i k).map (fun j => b + j))
def m_fl (κ b : Nat) (M : Mem) (i : Nat) : List Value := (List.range (m_nf κ)).map (fun k => m_fv b M i k (m_ft κ k))
def m_ar (κ b : Nat) (M : Mem) (i : Nat) : vp_A := (m_len i, if κ ≤ 9 then .inl (M.1 i) else if κ = 10 then .inr (.inl (M.2.2 i)) else .inr (.inr (.inr (.inr (fun k => (M.2.1 i k).map (fun j => b + j))))))
def m_e (cA : Nat → ClassId) (b : Nat) (M : Mem) (i : Nat) : va_E := if m_kd i < 8 then .inr (m_kd i, m_fl (m_kd i) b M i) else .inl (cA (m_kd i), m_ar (m_kd i) b M i)
def m_ws (cA : Nat → ClassId) (b n : Nat) (M : Mem) : va_W := (List.range n).map (fun i => (b + i, m_e cA b M i))
def m_A (b : Nat) : Nat → Prop := fun q => b ≤ q
def m_H (D : va_G) (cA : Nat → ClassId) (b n : Nat) (M : Mem) (H : Heap) : Prop := va_P D m_cl (m_ws cA b n M) H ∧ b + n ≤ H.size
def m_K (D : va_G) (cA : Nat → ClassId) (U : State) : Prop := va_K D m_cl (m_tys cA) U
def m_St (D : va_G) (cA : Nat → ClassId) (b n : Nat) (M : Mem) (U : State) : Prop := m_K D cA U ∧ m_H D cA b n M U.heap
def m_Q (D : va_G) (cA : Nat → ClassId) (b n : Nat) (res : Option Value → Mem → Prop) : Array Value → State → Outcome → State → Prop := fun _ st oc t => (∃ (v : Option Value) (M' : Mem), oc = .returned v ∧ res v M' ∧ m_H D cA b n M' t.heap) ∧ va_F (m_A b) st t
def lw_T : List Cond := lw_tbl.filter goodWord
theorem lw_T_of {w : Cond} (h : w ∈ lw_tbl) (g : goodWord w = true) : w ∈ lw_T := List.mem_filter.mpr ⟨h, g⟩
theorem lw_T_good {w : Cond} (h : w ∈ lw_T) : goodWord w = true := (List.mem_filter.mp h).2
/-- a contract -/
abbrev m_C (l : Launch) (D : va_G) (cA : Nat → ClassId) (b n n' : Nat) (M : Mem) (y : MethodName) (bytes : ByteArray) (maxL : Nat) (ret : Option FieldType) (rm : Room) (mc ms : Nat) (av : List Value) (res : Option Value → Mem → Prop) : Prop :=
  Met l y (Cond.code y bytes maxL ret :: lw_T) rm (va_Pc av (m_St D cA b n M)) (m_Q D cA b n' res) mc ms (m_A b)
-- what a method answers
abbrev rV (P : Mem → Prop) : Option Value → Mem → Prop := fun v M => v = none ∧ P M
abbrev rI (P : Int32 → Mem → Prop) : Option Value → Mem → Prop := fun v M => ∃ r : Int32, v = some (.int r) ∧ P r M
abbrev rZ (P : Bool → Mem → Prop) : Option Value → Mem → Prop := fun v M => ∃ r : Bool, v = some (.int (bI r)) ∧ P r M
abbrev rL (P : Int64 → Mem → Prop) : Option Value → Mem → Prop := fun v M => ∃ r : Int64, v = some (.long r) ∧ P r M
abbrev rD (P : UInt64 → Mem → Prop) : Option Value → Mem → Prop := fun v M => ∃ r : UInt64, v = some (.double r) ∧ P r M
abbrev rR (b : Nat) (P : Nat → Mem → Prop) : Option Value → Mem → Prop := fun v M => ∃ r : Nat, v = some (.ref (b + r)) ∧ P r M
abbrev rO (b : Nat) (P : Option Nat → Mem → Prop) : Option Value → Mem → Prop := fun v M => ∃ r : Option Nat, v = some (va_rf (r.map (fun j => b + j))) ∧ P r M
theorem m_ws_at {cA : Nat → ClassId} {b n : Nat} {M : Mem} {i : Nat} (h : i < n) : (m_ws cA b n M)[i]? = some (b + i, m_e cA b M i) := by simp [m_ws, h]
theorem m_ws_in {cA : Nat → ClassId} {b n : Nat} {M : Mem} {k : Nat} {q : Nat × va_E} (h : (m_ws cA b n M)[k]? = some q) : k < n ∧ q = (b + k, m_e cA b M k) := by
  have hk : k < n := by
    have := (List.getElem?_eq_some_iff.mp h).1
    simpa [m_ws] using this
  rw [m_ws_at hk] at h
  exact ⟨hk, (Option.some.inj h).symm⟩
theorem m_D {cA : Nat → ClassId} {b n : Nat} {M : Mem} : va_D (m_A b) (m_ws cA b n M) := by
  refine ⟨fun i j p q hi hj h => ?_, fun k q hk => ?_⟩
  · obtain ⟨-, rfl⟩ := m_ws_in hi
    obtain ⟨-, rfl⟩ := m_ws_in hj
    have h : b + i = b + j := h
    omega
  · obtain ⟨-, rfl⟩ := m_ws_in hk
    show b ≤ b + k
    omega
theorem m_ws_set {cA : Nat → ClassId} {b n : Nat} {M M' : Mem} {i : Nat} {e : va_E} (he : m_e cA b M' i = e) (ho : ∀ j, j ≠ i → m_e cA b M' j = m_e cA b M j) : (m_ws cA b n M).set i (b + i, e) = m_ws cA b n M' := by
  apply List.ext_getElem?
  intro j
  by_cases hj : j < n
  · rw [m_ws_at hj]
    by_cases hij : i = j
    · subst hij
      rw [List.getElem?_set_self (by simp [m_ws, hj]), he]
    · rw [List.getElem?_set_ne hij, m_ws_at hj, ho j (Ne.symm hij)]
  · rw [List.getElem?_eq_none (by simp [m_ws]; omega), List.getElem?_eq_none (by simp [m_ws]; omega)]
theorem m_ws_push {cA : Nat → ClassId} {b n : Nat} {M M' : Mem} {e : va_E} (he : m_e cA b M' n = e) (ho : ∀ j, j ≠ n → m_e cA b M' j = m_e cA b M j) : m_ws cA b n M ++ [(b + n, e)] = m_ws cA b (n + 1) M' := by
  unfold m_ws
  rw [List.range_succ, List.map_append]
  congr 1
  · apply List.map_congr_left
    intro j hj
    have := List.mem_range.mp hj
    rw [ho j (by omega)]
  · simp [he]
theorem m_e_congr {cA : Nat → ClassId} {b : Nat} {M M' : Mem} {j : Nat} (h1 : ∀ k, M'.1 j k = M.1 j k) (h2 : ∀ k, M'.2.1 j k = M.2.1 j k) (h3 : ∀ k, M'.2.2 j k = M.2.2 j k) : m_e cA b M' j = m_e cA b M j := by
  have e1 : M'.1 j = M.1 j := funext h1
  have e2 : M'.2.1 j = M.2.1 j := funext h2
  have e3 : M'.2.2 j = M.2.2 j := funext h3
  unfold m_e m_fl m_ar m_fv
  rw [e1, e2, e3]
theorem m_e_o {cA : Nat → ClassId} {b : Nat} {M : Mem} {i κ : Nat} (h : m_kd i = κ) (hκ : κ < 8) : m_e cA b M i = .inr (κ, m_fl κ b M i) := by
  subst h
  unfold m_e
  rw [if_pos hκ]
theorem m_e_a {cA : Nat → ClassId} {b : Nat} {M : Mem} {i κ : Nat} (h : m_kd i = κ) (hκ : ¬ κ < 8) : m_e cA b M i = .inl (cA κ, m_ar κ b M i) := by
  subst h
  unfold m_e
  rw [if_neg hκ]
theorem m_fl_at {κ b : Nat} {M : Mem} {i k : Nat} (h : k < m_nf κ) : (m_fl κ b M i)[k]? = some (m_fv b M i k (m_ft κ k)) := by simp [m_fl, h]
theorem m_fl_set {κ b : Nat} {M M' : Mem} {i k : Nat} {v : Value} (hv : m_fv b M' i k (m_ft κ k) = v) (ho : ∀ l ty, l ≠ k → m_fv b M' i l ty = m_fv b M i l ty) : (m_fl κ b M i).set k v = m_fl κ b M' i := by
  apply List.ext_getElem?
  intro j
  by_cases hj : j < m_nf κ
  · rw [m_fl_at hj]
    by_cases hkj : k = j
    · subst hkj
      rw [List.getElem?_set_self (by simp [m_fl, hj]), hv]
    · rw [List.getElem?_set_ne hkj, m_fl_at hj, ho j _ (Ne.symm hkj)]
  · rw [List.getElem?_eq_none (by simp [m_fl]; omega), List.getElem?_eq_none (by simp [m_fl]; omega)]
theorem uI_s {M : Mem} {i k : Nat} {v : Int32} : (uI M i k v).1 i k = v := by simp [uI]
theorem uI_o {M : Mem} {i k j l : Nat} {v : Int32} (h : ¬ (j = i ∧ l = k)) : (uI M i k v).1 j l = M.1 j l := by simp [uI, h]
theorem uR_s {M : Mem} {i k : Nat} {v : Option Nat} : (uR M i k v).2.1 i k = v := by simp [uR]
theorem uR_o {M : Mem} {i k j l : Nat} {v : Option Nat} (h : ¬ (j = i ∧ l = k)) : (uR M i k v).2.1 j l = M.2.1 j l := by simp [uR, h]
theorem uL_s {M : Mem} {i k : Nat} {v : Int64} : (uL M i k v).2.2 i k = v := by simp [uL]
theorem uL_o {M : Mem} {i k j l : Nat} {v : Int64} (h : ¬ (j = i ∧ l = k)) : (uL M i k v).2.2 j l = M.2.2 j l := by simp [uL, h]
theorem m_fv_uI_o {b : Nat} {M : Mem} {i k l : Nat} {v : Int32} {ty : FieldType} (h : l ≠ k) : m_fv b (uI M i k v) i l ty = m_fv b M i l ty := by
  unfold m_fv
  cases ty <;> simp [uI, h]
theorem m_fv_uR_o {b : Nat} {M : Mem} {i k l : Nat} {v : Option Nat} {ty : FieldType} (h : l ≠ k) : m_fv b (uR M i k v) i l ty = m_fv b M i l ty := by
  unfold m_fv
  cases ty <;> simp [uR, h]
theorem m_fv_uL_o {b : Nat} {M : Mem} {i k l : Nat} {v : Int64} {ty : FieldType} (h : l ≠ k) : m_fv b (uL M i k v) i l ty = m_fv b M i l ty := by
  unfold m_fv
  cases ty <;> simp [uL, h]
theorem m_e_uI_o {cA : Nat → ClassId} {b : Nat} {M : Mem} {i k j : Nat} {v : Int32} (h : j ≠ i) : m_e cA b (uI M i k v) j = m_e cA b M j := m_e_congr (fun l => uI_o (fun z => h z.1)) (fun _ => rfl) (fun _ => rfl)
theorem m_e_uR_o {cA : Nat → ClassId} {b : Nat} {M : Mem} {i k j : Nat} {v : Option Nat} (h : j ≠ i) : m_e cA b (uR M i k v) j = m_e cA b M j := m_e_congr (fun _ => rfl) (fun l => uR_o (fun z => h z.1)) (fun _ => rfl)
theorem m_e_uL_o {cA : Nat → ClassId} {b : Nat} {M : Mem} {i k j : Nat} {v : Int64} (h : j ≠ i) : m_e cA b (uL M i k v) j = m_e cA b M j := m_e_congr (fun _ => rfl) (fun _ => rfl) (fun l => uL_o (fun z => h z.1))
theorem m_e_uN_o {cA : Nat → ClassId} {b : Nat} {M : Mem} {i j : Nat} (h : j ≠ i) : m_e cA b (uN M i) j = m_e cA b M j := m_e_congr (fun _ => by simp [uN, h]) (fun _ => by simp [uN, h]) (fun _ => by simp [uN, h])
theorem m_tp.le {n n' i κ : Nat} (h : m_tp n i κ) (hn : n ≤ n') : m_tp n' i κ := ⟨Nat.lt_of_lt_of_le h.1 hn, h.2⟩
theorem m_blind {D : va_G} {cA : Nat → ClassId} {b n : Nat} {M : Mem} {av : List Value} : FrameBlind (va_Pc av (m_St D cA b n M)) := by
  intro a U g mk h
  obtain ⟨h1, h2, h3⟩ := h
  exact ⟨h1, va_K.moved (u := U) (U := U.calling g mk a) (Vm.Alike.refl U.vm) h2, h3⟩
section MR
variable {p : Program} {l : Launch} {e : Env} {R : Room} {s : State} {m : MethodId} {args : Array Value} {below : List Frame} {meth : Method} {c : Code} {H : Heap} {locs : List Loc} {cells slots : Nat} {Q : State → Prop}
variable {cc : ByteArray} {pc : Nat} {ls : Array Slot} {rest : List Value} {nL : Nat} {own : String} {D : va_G} {cA : Nat → ClassId} {b n : Nat} {M : Mem}
/-- the entry -/
theorem m_enter {y : MethodName} {bytes : ByteArray} {maxL : Nat} {ret : Option FieldType} {rm : Room} {mc ms n' : Nat} {av : List Value} {res : Option Value → Mem → Prop} (hy : plainName y.cls = true) (hlen : (lg_sl av).length ≤ maxL)
    (body : ∀ (p : Program) (e : Env) (s : State) (m : MethodId) (below : List Frame) (meth : Method) (c : Code), CallFix p m c bytes maxL s av.toArray lw_T y.cls → meth.sig.returnType = ret → meth.locks = false → meth.name = y.name → m_K D cA s → m_H D cA b n M s.heap → va_S (m_A b) s.heap s.heap [] →
      ∀ ls : Array Slot, lv_has ls maxL (lv_args 0 av) → W p l e rm s m av.toArray below meth c s.heap [] 0 0 (MQ below (m_Q D cA b n' res) av.toArray s mc ms (m_A b)) (F0 m 0 ls [])) :
    m_C l D cA b n n' M y bytes maxL ret rm mc ms av res := by
  refine Met.ofW (cc := bytes) (maxL := maxL) (ret := ret) hy rfl ?_
  intro p e s m args below meth c s₁ B hml hv
  obtain ⟨rfl, hK, hP⟩ := hv
  have hts := atoms_spec (ws := Cond.code y bytes maxL ret :: lw_T) B.pre
  have hl := lv_entry av (n := maxL) hlen
  rw [lg_entry_eq]
  exact body p e s m below meth c ⟨B.exec, B.bytes, hml, findClass_of_methodNamed B.named, fun w hw => hts w (List.mem_cons_of_mem _ hw)⟩ B.returns B.notSynchronized (name_of_methodNamed B.named B.method).1 hK hP va_S.rf _ hl
theorem m_hp {D : va_G} {cA : Nat → ClassId} {b n : Nat} {M : Mem} {H : Heap} (hP : m_H D cA b n M H) {i κ : Nat} (ht : m_tp n i κ) (hκ : κ < 8) : (m_ws cA b n M)[i]? = some (b + i, .inr (κ, m_fl κ b M i)) := by
  rw [m_ws_at ht.1, m_e_o ht.2 hκ]
theorem m_ha {D : va_G} {cA : Nat → ClassId} {b n : Nat} {M : Mem} {H : Heap} (hP : m_H D cA b n M H) {i κ : Nat} (ht : m_tp n i κ) (hκ : ¬ κ < 8) : (m_ws cA b n M)[i]? = some (b + i, .inl (cA κ, m_ar κ b M i)) := by
  rw [m_ws_at ht.1, m_e_a ht.2 hκ]
theorem m_get {i κ k index N : Nat} {C1 nm ds : String} {T1 : u_T} {v : Value} (C : CallFix p m c cc nL s args lw_T own) (hK : m_K D cA s) (hP : m_H D cA b n M H) (ht : m_tp n i κ) (hκ : κ < 8) (hcl : m_cl[κ]? = some (C1, T1, N)) (hin : ∀ w ∈ u_ws C1 T1 N, w ∈ lw_T) (hk : k < N) (hn : k < m_nf κ) (hT : ∃ f, T1 k = (C1, nm, ds, f)) (hl : Cond.fieldLink own index C1 nm ds ∈ lw_T) (hv : m_fv b M i k (m_ft κ k) = v) (hdg : decode cc pc = .ok (.getfield index, 3))
    (kk : W p l e R s m args below meth c H locs cells slots Q (F0 m (pc + 3) ls (v :: rest))) : W p l e R s m args below meth c H locs cells slots Q (F0 m pc ls (.ref (b + i) :: rest)) := by
  obtain ⟨f, hT⟩ := hT
  have e1 : (T1 k).1 = C1 := by rw [hT]
  have e2 : (T1 k).2.1 = nm := by rw [hT]
  have e3 : (T1 k).2.2.1 = ds := by rw [hT]
  refine va_get (D := D) (ci := κ) (own := own) (ref := C1) C.1 C.2.1 C.2.2.2.2 hin C.2.2.2.1 hK hP.1 i (m_hp hP ht hκ) hcl k hk (by rw [e2, e3]; exact C.2.2.2.2 _ hl) (fun x h => by rw [← e1]; exact h) (v := v) ?_ hdg kk
  rw [m_fl_at hn, hv]
theorem m_store {i κ k : Nat} {M' : Mem} {v : Value} {H1 : Heap} {cell : Cell} {C1 : String} {T1 : u_T} {N : Nat} (hP : m_H D cA b n M H) (ht : m_tp n i κ) (hκ : κ < 8) (hcl : m_cl[κ]? = some (C1, T1, N)) (hk : k < N) (hn : k < m_nf κ) (hap : ∀ x y, x < N → y < N → x ≠ y → (D.2 κ) x ≠ (D.2 κ) y)
    (q2 : cell.cls = D.1 κ) (q3 : cell.vm = .none) (q4 : ∀ k, k < N → cell.slots[D.2 κ k]? = some (vp_V (m_fl κ b M i) k)) (hv : m_fv b M' i k (m_ft κ k) = v) (ho : ∀ l ty, l ≠ k → m_fv b M' i l ty = m_fv b M i l ty) (hj : ∀ j, j ≠ i → m_e cA b M' j = m_e cA b M j)
    (e1 : H1[b + i]? = some (cell.setSlot (D.2 κ k) v)) (e2 : H1.size = H.size) (e3 : ∀ q, q ≠ b + i → H1[q]? = H[q]?) : m_H D cA b n M' H1 := by
  have hl : k < (m_fl κ b M i).length := by simp [m_fl, hn]
  have h1 := hP.1.set m_D (m_hp hP ht hκ) (e := .inr (κ, (m_fl κ b M i).set k v)) ⟨_, hcl, t_OB.to (V := updV (vp_V (m_fl κ b M i)) k v) ⟨_, e1, q2, q3, t_set q4 hap hk v⟩ (fun j _ => vp_updV_set hl v j)⟩ e3
  rw [m_fl_set hv ho, m_ws_set (M' := M') (m_e_o ht.2 hκ) hj] at h1
  exact ⟨h1, by rw [e2]; exact hP.2⟩
theorem m_put {i κ k index N : Nat} {C1 nm ds : String} {T1 : u_T} {v : Value} {M' : Mem} {ty : FieldType} (C : CallFix p m c cc nL s args lw_T own) (hK : m_K D cA s) (hP : m_H D cA b n M H) (hS : va_S (m_A b) s.heap H locs) (ht : m_tp n i κ) (hκ : κ < 8) (hcl : m_cl[κ]? = some (C1, T1, N)) (hin : ∀ w ∈ u_ws C1 T1 N, w ∈ lw_T) (ty0 : Nat → FieldType) (hty : ∀ k, k < N → parseFieldDescriptor (T1 k).2.2.1 = some (ty0 k)) (hnm : ∀ a, a < N → ∀ b, b < N → a ≠ b → (T1 a).2.1 ≠ (T1 b).2.1) (hk : k < N) (hn : k < m_nf κ) (hT : T1 k = (C1, nm, ds, false)) (hl : Cond.fieldLink own index C1 nm ds ∈ lw_T) (hd : parseFieldDescriptor ds = some ty) (hnar : narrow ty v = v) (hfit : fits ty v = true)
    (hv : m_fv b M' i k (m_ft κ k) = v) (ho : ∀ l ty, l ≠ k → m_fv b M' i l ty = m_fv b M i l ty) (hj : ∀ j, j ≠ i → m_e cA b M' j = m_e cA b M j) (hdg : decode cc pc = .ok (.putfield index, 3))
    (kk : ∀ (H1 : Heap) (locs1 : List Loc), m_H D cA b n M' H1 → va_S (m_A b) s.heap H1 locs1 → H1.size = H.size → W p l e R s m args below meth c H1 locs1 cells slots Q (F0 m (pc + 3) ls rest)) : W p l e R s m args below meth c H locs cells slots Q (F0 m pc ls (v :: .ref (b + i) :: rest)) := by
  have hts := C.2.2.2.2
  have hap := va_apart (own := own) hts hin ty0 hty hnm hK hcl
  obtain ⟨r, h1, cell, q1, q2, q3, q4⟩ := hP.1 i _ (m_hp hP ht hκ)
  have hr : r = (C1, T1, N) := Option.some.inj (h1.symm.trans hcl)
  subst hr
  obtain ⟨hS1, hfc, kC, hkC, hkind⟩ := hK.1 κ _ hcl
  have hS2 := hS1 k hk
  have hlay := hts _ (hin _ (u_in_lay hk))
  have hlays := u_lays hts hin hk
  unfold u_lay at hlay
  rw [if_neg (by rw [hT]; simp)] at hlay
  simp only [hT] at hS2 hlay hlays
  obtain ⟨cf, kf, fi, f, hi, hsl⟩ := hS2
  have hst := (u_facts hfc hkC hlays hi).1
  have h6 := u_store hfc hkC hkind hlay hi hd hnar hfit
  refine W.putK C.1 C.2.1 (f := f) ⟨C.2.2.2.1, hts _ hl, ⟨_, _, _, hi⟩, hst⟩ (by rw [q2]; exact h6) q1 q3 (by rw [hsl]; exact k2_hasslot (q4 k hk)) rfl rfl hdg fun H' e1 e2 e3 => ?_
  rw [hsl] at e1 ⊢
  exact kk H' _ (m_store hP ht hκ hcl hk hn hap q2 q3 q4 hv ho hj e1 e2 e3) (hS.put e2 e3 (Nat.le_add_right b i)) e2
theorem m_putF {i κ k index N : Nat} {C1 nm ds : String} {T1 : u_T} {v : Value} {M' : Mem} {ty : FieldType} (C : CallFix p m c cc nL s args lw_T own) (hK : m_K D cA s) (hP : m_H D cA b n M H) (hS : va_S (m_A b) s.heap H locs) (hin2 : meth.name = "<init>") (ht : m_tp n i κ) (hκ : κ < 8) (hcl : m_cl[κ]? = some (C1, T1, N)) (hin : ∀ w ∈ u_ws C1 T1 N, w ∈ lw_T) (ty0 : Nat → FieldType) (hty : ∀ k, k < N → parseFieldDescriptor (T1 k).2.2.1 = some (ty0 k)) (hnm : ∀ a, a < N → ∀ b, b < N → a ≠ b → (T1 a).2.1 ≠ (T1 b).2.1) (hk : k < N) (hn : k < m_nf κ) (hT : T1 k = (C1, nm, ds, true)) (hown : C1 = own) (hl : Cond.fieldLink own index C1 nm ds ∈ lw_T) (hd : parseFieldDescriptor ds = some ty) (hnar : narrow ty v = v) (hfit : fits ty v = true)
    (hv : m_fv b M' i k (m_ft κ k) = v) (ho : ∀ l ty, l ≠ k → m_fv b M' i l ty = m_fv b M i l ty) (hj : ∀ j, j ≠ i → m_e cA b M' j = m_e cA b M j) (hdg : decode cc pc = .ok (.putfield index, 3))
    (kk : ∀ (H1 : Heap) (locs1 : List Loc), m_H D cA b n M' H1 → va_S (m_A b) s.heap H1 locs1 → H1.size = H.size → W p l e R s m args below meth c H1 locs1 cells slots Q (F0 m (pc + 3) ls rest)) : W p l e R s m args below meth c H locs cells slots Q (F0 m pc ls (v :: .ref (b + i) :: rest)) := by
  have hts := C.2.2.2.2
  have hap := va_apart (own := own) hts hin ty0 hty hnm hK hcl
  obtain ⟨r, h1, cell, q1, q2, q3, q4⟩ := hP.1 i _ (m_hp hP ht hκ)
  have hr : r = (C1, T1, N) := Option.some.inj (h1.symm.trans hcl)
  subst hr
  obtain ⟨hS1, hfc, kC, hkC, hkind⟩ := hK.1 κ _ hcl
  have hS2 := hS1 k hk
  have hlay := hts _ (hin _ (u_in_lay hk))
  have hlays := u_lays hts hin hk
  unfold u_lay at hlay
  rw [if_pos (by rw [hT])] at hlay
  simp only [hT] at hS2 hlay hlays
  obtain ⟨cf, kf, fi, f, hi, hsl⟩ := hS2
  have hst := (u_facts hfc hkC hlays hi).1
  have hcf : m.cls = cf := by
    obtain ⟨_, _, c', _, _, _, -, -, hf', -, -, -, hown2, -⟩ := Cond.laysFinal_spec hlay
    have e1 : c' = cf := by have := hi.symm.trans hf'; simp at this; exact this.1.symm
    rw [hown] at hown2
    rw [← e1]; exact Option.some.inj (C.2.2.2.1.symm.trans hown2)
  have h6 := u_fits hfc hkC hkind (Or.inr hlay) hi hd hnar hfit
  refine W.putFinK C.1 C.2.1 C.2.2.2.1 (hts _ hl) hi hst hcf hin2 (by rw [q2]; exact h6) q1 q3 (by rw [hsl]; exact k2_hasslot (q4 k hk)) rfl rfl hdg fun H' e1 e2 e3 => ?_
  rw [hsl] at e1 ⊢
  exact kk H' _ (m_store hP ht hκ hcl hk hn hap q2 q3 q4 hv ho hj e1 e2 e3) (hS.put e2 e3 (Nat.le_add_right b i)) e2
-- arrays
theorem m_ar_i {κ : Nat} (h : κ ≤ 9) (i : Nat) : m_ar κ b M i = (m_len i, .inl (M.1 i)) := by simp [m_ar, h]
theorem m_ar_l (i : Nat) : m_ar 10 b M i = (m_len i, .inr (.inl (M.2.2 i))) := by simp [m_ar]
theorem m_ar_q {κ : Nat} (h : 10 < κ) (i : Nat) : m_ar κ b M i = (m_len i, .inr (.inr (.inr (.inr (fun k => (M.2.1 i k).map (fun j => b + j)))))) := by
  have h1 : ¬ κ ≤ 9 := by omega
  have h2 : ¬ κ = 10 := by omega
  simp [m_ar, h1, h2]
theorem m_hi {i κ : Nat} (hP : m_H D cA b n M H) (ht : m_tp n i κ) (h8 : ¬ κ < 8) (h : κ ≤ 9) : (m_ws cA b n M)[i]? = some (b + i, .inl (cA κ, m_len i, .inl (M.1 i))) := by rw [m_ha hP ht h8, m_ar_i h]
theorem m_hl {i : Nat} (hP : m_H D cA b n M H) (ht : m_tp n i 10) : (m_ws cA b n M)[i]? = some (b + i, .inl (cA 10, m_len i, .inr (.inl (M.2.2 i)))) := by rw [m_ha hP ht (by decide), m_ar_l]
theorem m_hq {i κ : Nat} (hP : m_H D cA b n M H) (ht : m_tp n i κ) (h : 10 < κ) : (m_ws cA b n M)[i]? = some (b + i, .inl (cA κ, m_len i, .inr (.inr (.inr (.inr (fun k => (M.2.1 i k).map (fun j => b + j))))))) := by rw [m_ha hP ht (by omega), m_ar_q h]
theorem m_iald {i : Nat} {j : Int32} (C : CallFix p m c cc nL s args lw_T own) (hK : m_K D cA s) (hP : m_H D cA b n M H) (ht : m_tp n i 8) (hin : vp_in j (m_len i)) (hdg : decode cc pc = .ok (.iaload, 1))
    (kk : W p l e R s m args below meth c H locs cells slots Q (F0 m (pc + 1) ls (.int (M.1 i j.toNatClampNeg) :: rest))) : W p l e R s m args below meth c H locs cells slots Q (F0 m pc ls (.int j :: .ref (b + i) :: rest)) :=
  va_iald C.1 C.2.1 hK hP.1 i 0 (m_hi hP ht (by decide) (by decide)) rfl hin hdg kk
theorem m_cald {i : Nat} {j : Int32} (C : CallFix p m c cc nL s args lw_T own) (hK : m_K D cA s) (hP : m_H D cA b n M H) (ht : m_tp n i 9) (hin : vp_in j (m_len i)) (hdg : decode cc pc = .ok (.caload, 1))
    (kk : W p l e R s m args below meth c H locs cells slots Q (F0 m (pc + 1) ls (.int (M.1 i j.toNatClampNeg) :: rest))) : W p l e R s m args below meth c H locs cells slots Q (F0 m pc ls (.int j :: .ref (b + i) :: rest)) :=
  va_cald C.1 C.2.1 hK hP.1 i 1 (m_hi hP ht (by decide) (by decide)) rfl hin hdg kk
theorem m_lald {i : Nat} {j : Int32} (C : CallFix p m c cc nL s args lw_T own) (hK : m_K D cA s) (hP : m_H D cA b n M H) (ht : m_tp n i 10) (hin : vp_in j (m_len i)) (hdg : decode cc pc = .ok (.laload, 1))
    (kk : W p l e R s m args below meth c H locs cells slots Q (F0 m (pc + 1) ls (.long (M.2.2 i j.toNatClampNeg) :: rest))) : W p l e R s m args below meth c H locs cells slots Q (F0 m pc ls (.int j :: .ref (b + i) :: rest)) :=
  va_lald C.1 C.2.1 hK hP.1 i 2 (m_hl hP ht) rfl hin hdg kk
theorem m_aldq {i κ q : Nat} {E : String} {j : Int32} (C : CallFix p m c cc nL s args lw_T own) (hK : m_K D cA s) (hP : m_H D cA b n M H) (ht : m_tp n i κ) (h : 10 < κ) (hty : (m_tys cA)[κ - 8]? = some (cA κ, .object E)) (hin : vp_in j (m_len i)) (hv : M.2.1 i j.toNatClampNeg = some q) (hdg : decode cc pc = .ok (.aaload, 1))
    (kk : W p l e R s m args below meth c H locs cells slots Q (F0 m (pc + 1) ls (.ref (b + q) :: rest))) : W p l e R s m args below meth c H locs cells slots Q (F0 m pc ls (.int j :: .ref (b + i) :: rest)) := by
  refine va_aldq C.1 C.2.1 hK hP.1 i (κ - 8) (m_hq hP ht h) hty hin hdg ?_
  rw [hv]
  exact kk
theorem m_alen {i κ : Nat} {ty : FieldType} (C : CallFix p m c cc nL s args lw_T own) (hK : m_K D cA s) (hP : m_H D cA b n M H) (ht : m_tp n i κ) (h : ¬ κ < 8) (hty : (m_tys cA)[κ - 8]? = some (cA κ, ty)) (hdg : decode cc pc = .ok (.arraylength, 1))
    (kk : W p l e R s m args below meth c H locs cells slots Q (F0 m (pc + 1) ls (.int (nI (m_len i)) :: rest))) : W p l e R s m args below meth c H locs cells slots Q (F0 m pc ls (.ref (b + i) :: rest)) :=
  va_alen C.1 C.2.1 hK hP.1 i (κ - 8) (m_ha hP ht h) hty (v := nI (m_len i)) rfl hdg kk
theorem m_size {M' : Mem} (h : va_P D m_cl (m_ws cA b n M') H) (hn : n ≠ 0) : b + n ≤ H.size := by
  rcases n with _ | n
  · exact absurd rfl hn
  · have h4 : b + n < H.size := (h n _ (m_ws_at (Nat.lt_succ_self n))).lt
    omega
theorem m_set_a {i κ : Nat} {M' : Mem} {H1 : Heap} {x : vp_A} (ht : m_tp n i κ) (h8 : ¬ κ < 8) (hx : m_ar κ b M' i = x) (ho : ∀ j, j ≠ i → m_e cA b M' j = m_e cA b M j) (h : va_P D m_cl ((m_ws cA b n M).set i (b + i, .inl (cA κ, x))) H1) : m_H D cA b n M' H1 := by
  rw [m_ws_set (M' := M') (by rw [m_e_a ht.2 h8, hx]) ho] at h
  exact ⟨h, m_size h (by have := ht.1; omega)⟩
theorem m_iast {i : Nat} {j x : Int32} (C : CallFix p m c cc nL s args lw_T own) (hK : m_K D cA s) (hP : m_H D cA b n M H) (hS : va_S (m_A b) s.heap H locs) (ht : m_tp n i 8) (hin : vp_in j (m_len i)) (hdg : decode cc pc = .ok (.iastore, 1))
    (kk : ∀ (M' : Mem) (H1 : Heap) (locs1 : List Loc), M' = uI M i j.toNatClampNeg x → m_H D cA b n M' H1 → va_S (m_A b) s.heap H1 locs1 → W p l e R s m args below meth c H1 locs1 cells slots Q (F0 m (pc + 1) ls rest)) : W p l e R s m args below meth c H locs cells slots Q (F0 m pc ls (.int x :: .int j :: .ref (b + i) :: rest)) :=
  va_iast C.1 C.2.1 hK hP.1 m_D hS i 0 (m_hi hP ht (by decide) (by decide)) rfl hin hdg fun H1 locs1 h1 _ h3 => kk _ H1 locs1 rfl (m_set_a ht (by decide) (by
    rw [m_ar_i (by decide)]
    congr 2
    funext k
    simp [uI, upd]) (fun j hj => m_e_uI_o hj) h1) h3
theorem m_cast {i : Nat} {j x : Int32} (C : CallFix p m c cc nL s args lw_T own) (hK : m_K D cA s) (hP : m_H D cA b n M H) (hS : va_S (m_A b) s.heap H locs) (ht : m_tp n i 9) (hin : vp_in j (m_len i)) (hdg : decode cc pc = .ok (.castore, 1))
    (kk : ∀ (M' : Mem) (H1 : Heap) (locs1 : List Loc), M' = uI M i j.toNatClampNeg (vp_nar .char x) → m_H D cA b n M' H1 → va_S (m_A b) s.heap H1 locs1 → W p l e R s m args below meth c H1 locs1 cells slots Q (F0 m (pc + 1) ls rest)) : W p l e R s m args below meth c H locs cells slots Q (F0 m pc ls (.int x :: .int j :: .ref (b + i) :: rest)) :=
  va_cast C.1 C.2.1 hK hP.1 m_D hS i 1 (m_hi hP ht (by decide) (by decide)) rfl hin hdg fun H1 locs1 h1 _ h3 => kk _ H1 locs1 rfl (m_set_a ht (by decide) (by
    rw [m_ar_i (by decide)]
    congr 2
    funext k
    simp [uI, upd]) (fun j hj => m_e_uI_o hj) h1) h3
theorem m_last {i : Nat} {j : Int32} {x : Int64} (C : CallFix p m c cc nL s args lw_T own) (hK : m_K D cA s) (hP : m_H D cA b n M H) (hS : va_S (m_A b) s.heap H locs) (ht : m_tp n i 10) (hin : vp_in j (m_len i)) (hdg : decode cc pc = .ok (.lastore, 1))
    (kk : ∀ (M' : Mem) (H1 : Heap) (locs1 : List Loc), M' = uL M i j.toNatClampNeg x → m_H D cA b n M' H1 → va_S (m_A b) s.heap H1 locs1 → W p l e R s m args below meth c H1 locs1 cells slots Q (F0 m (pc + 1) ls rest)) : W p l e R s m args below meth c H locs cells slots Q (F0 m pc ls (.long x :: .int j :: .ref (b + i) :: rest)) :=
  va_last C.1 C.2.1 hK hP.1 m_D hS i 2 (m_hl hP ht) rfl hin hdg fun H1 locs1 h1 _ h3 => kk _ H1 locs1 rfl (m_set_a ht (by decide) (by
    rw [m_ar_l]
    congr 3
    funext k
    simp [uL, vp_updL]) (fun j hj => m_e_uL_o hj) h1) h3
theorem m_astq {i κ q ci N : Nat} {E : String} {T1 : u_T} {j : Int32} (C : CallFix p m c cc nL s args lw_T own) (hK : m_K D cA s) (hP : m_H D cA b n M H) (hS : va_S (m_A b) s.heap H locs) (ht : m_tp n i κ) (h : 10 < κ) (hty : (m_tys cA)[κ - 8]? = some (cA κ, .object E)) (hq : m_tp n q ci) (hci : ci < 8) (hcl : m_cl[ci]? = some (E, T1, N)) (hin : vp_in j (m_len i)) (hdg : decode cc pc = .ok (.aastore, 1))
    (kk : ∀ (M' : Mem) (H1 : Heap) (locs1 : List Loc), M' = uR M i j.toNatClampNeg (some q) → m_H D cA b n M' H1 → va_S (m_A b) s.heap H1 locs1 → W p l e R s m args below meth c H1 locs1 cells slots Q (F0 m (pc + 1) ls rest)) : W p l e R s m args below meth c H locs cells slots Q (F0 m pc ls (.ref (b + q) :: .int j :: .ref (b + i) :: rest)) :=
  va_astq (r := (E, T1, N)) C.1 C.2.1 hK hP.1 m_D hS i (κ - 8) q ci (m_hq hP ht h) hty (m_hp hP hq hci) hcl hin hdg fun H1 locs1 h1 _ h3 => kk _ H1 locs1 rfl (m_set_a ht (by omega) (by
    rw [m_ar_q h]
    congr 5
    funext k
    by_cases hk : k = j.toNatClampNeg <;> simp [uR, va_up, hk]) (fun j hj => m_e_uR_o hj) h1) h3
-- calls
theorem m_res {y : MethodName} {mc ms n' : Nat} {av : Array Value} {res : Option Value → Mem → Prop} {g : JFrame} {st0 : List Value} (hg : g = F0 m pc ls st0) (hS : va_S (m_A b) s.heap H locs) (hr : va_Run p l e R s m args below meth c H locs cells slots mc ms g rest (m_Q D cA b n' res av) (m_A b))
    (kk : ∀ (v : Option Value) (M' : Mem) (H1 : Heap) (locs1 : List Loc), res v M' → m_H D cA b n' M' H1 → va_S (m_A b) s.heap H1 locs1 → W p l e R s m args below meth c H1 locs1 (cells + mc) (slots + ms) Q (F0 m (pc + 3) ls (v.toList ++ rest))) : W p l e R s m args below meth c H locs cells slots Q g := by
  subst hg
  intro T hT X
  obtain ⟨v, st₀, t, T', L, h0, X', hL, e1, e2, ⟨⟨v', M', hv, hres, hH⟩, hz, hk⟩, st⟩ := hr T hT X
  cases hv
  rw [h0] at hz hk
  obtain ⟨t2, a1, b1⟩ := kk v M' T'.heap (locs ++ L) hres (by rw [e1]; exact hH)
    ⟨Nat.le_trans hS.1 (by rw [e1]; exact hz), fun q h1 h2 => by rw [e1, hk q (Nat.lt_of_lt_of_le h1 hS.1) h2]; exact hS.2.1 q h1 h2, fun q hq => by
      rcases List.mem_append.mp hq with h | h
      · exact hS.2.2 q h
      · exact hL q h⟩ T' rfl X'
  exact ⟨t2, st t2 a1, b1⟩
theorem m_K.moved {u U : State} (hvm : u.vm.Alike U.vm) (h : m_K D cA u) : m_K D cA U := va_K.moved hvm h
theorem m_callB {y : MethodName} {bytes : ByteArray} {maxL index mc ms np : Nat} {ret : Option FieldType} {rm : Room} (C : CallFix p m c cc nL s args lw_T own) (hc : rm.cells = mc ∧ rm.slots = ms) (hml : Cond.methodLink own index y ∈ lw_T) (hini : Cond.initialized y.cls ∈ lw_T) (hco : Cond.code y bytes maxL ret ∈ lw_T)
    (hd : y.cls ≠ "java/lang/invoke/MethodHandle" ∧ y.cls ≠ "java/lang/invoke/VarHandle" ∧ (parseMethodDescriptor y.desc).map (fun d => d.parameters.length) = some np) (hR : rm.frames + 1 ≤ R.frames ∧ 8 + (maxL + 11) + rm.locals ≤ R.locals) : CallB R s args own index y bytes maxL ret (Cond.code y bytes maxL ret :: lw_T) rm mc ms np := by
  have hts := C.2.2.2.2
  refine callB_of np hts ?_ rfl hc.1 hc.2 (hts _ hini) (hts _ hml) hd hR
  intro w hw
  have hw' : w ∈ lw_T := by
    rcases List.mem_cons.mp hw with rfl | h
    · exact hco
    · exact h
  exact ⟨hw', good_of_word (lw_T_good hw')⟩
theorem m_callV {y : MethodName} {bytes : ByteArray} {maxL index np κ N i : Nat} {ret : Option FieldType} {rm : Room} {T1 : u_T} {As : List Value} {res : Option Value → Mem → Prop} {st0 : List Value} (C : CallFix p m c cc nL s args lw_T own) (hK : m_K D cA s) (hP : m_H D cA b n M H) (hS : va_S (m_A b) s.heap H locs) (hlv : ls.size = nL) (hcs : cells ≤ R.cells ∧ slots ≤ R.slots)
    (hM : m_C l D cA b n n M y bytes maxL ret rm 0 0 (.ref (b + i) :: As) res) (hst : st0 = As.reverse ++ .ref (b + i) :: rest) (hn : As.length = np) (ht : m_tp n i κ) (hκ : κ < 8) (hcl : m_cl[κ]? = some (y.cls, T1, N))
    (hml : Cond.methodLink own index y ∈ lw_T) (him : Cond.instanceMethod y ∈ lw_T) (hse : Cond.selects y.cls y y ∈ lw_T) (hini : Cond.initialized y.cls ∈ lw_T) (hco : Cond.code y bytes maxL ret ∈ lw_T) (hc : rm.cells = 0 ∧ rm.slots = 0)
    (hd : y.cls ≠ "java/lang/invoke/MethodHandle" ∧ y.cls ≠ "java/lang/invoke/VarHandle" ∧ (parseMethodDescriptor y.desc).map (fun d => d.parameters.length) = some np) (hR : rm.frames + 1 ≤ R.frames ∧ 8 + (maxL + 11) + rm.locals ≤ R.locals) (hroom : (rest.map fun v => v.category).sum ≤ 8) (hdg : decode cc pc = .ok (.invokevirtual index, 3))
    (kk : ∀ (v : Option Value) (M' : Mem) (H1 : Heap) (locs1 : List Loc), res v M' → m_H D cA b n M' H1 → va_S (m_A b) s.heap H1 locs1 → W p l e R s m args below meth c H1 locs1 cells slots Q (F0 m (pc + 3) ls (v.toList ++ rest))) : W p l e R s m args below meth c H locs cells slots Q (F0 m pc ls st0) :=
  m_res (y := y) rfl hS (va_runV C hM ⟨m_callB C hc hml hini hco hd hR, C.2.2.2.2 _ him, C.2.2.2.2 _ hse⟩ ⟨m_blind, va_recv hK hP.1 hcl (m_hp hP ht hκ), fun U hU hW => ⟨rfl, hK.moved hW.alike, by rw [hU]; exact hP⟩⟩ rfl hn hlv hst (lv_room hroom) hdg ⟨hcs.1, hcs.2⟩) kk
theorem m_callS {y : MethodName} {bytes : ByteArray} {maxL index np : Nat} {ret : Option FieldType} {rm : Room} {As : List Value} {res : Option Value → Mem → Prop} {st0 : List Value} (C : CallFix p m c cc nL s args lw_T own) (hK : m_K D cA s) (hP : m_H D cA b n M H) (hS : va_S (m_A b) s.heap H locs) (hlv : ls.size = nL) (hcs : cells ≤ R.cells ∧ slots ≤ R.slots)
    (hM : m_C l D cA b n n M y bytes maxL ret rm 0 0 As res) (hst : st0 = As.reverse ++ rest) (hn : As.length = np)
    (hml : Cond.methodLink own index y ∈ lw_T) (hsm : Cond.static y ∈ lw_T) (hini : Cond.initialized y.cls ∈ lw_T) (hco : Cond.code y bytes maxL ret ∈ lw_T) (hc : rm.cells = 0 ∧ rm.slots = 0)
    (hd : y.cls ≠ "java/lang/invoke/MethodHandle" ∧ y.cls ≠ "java/lang/invoke/VarHandle" ∧ (parseMethodDescriptor y.desc).map (fun d => d.parameters.length) = some np) (hR : rm.frames + 1 ≤ R.frames ∧ 8 + (maxL + 11) + rm.locals ≤ R.locals) (hroom : (rest.map fun v => v.category).sum ≤ 8) (hdg : decode cc pc = .ok (.invokestatic index, 3))
    (kk : ∀ (v : Option Value) (M' : Mem) (H1 : Heap) (locs1 : List Loc), res v M' → m_H D cA b n M' H1 → va_S (m_A b) s.heap H1 locs1 → W p l e R s m args below meth c H1 locs1 cells slots Q (F0 m (pc + 3) ls (v.toList ++ rest))) : W p l e R s m args below meth c H locs cells slots Q (F0 m pc ls st0) :=
  m_res (y := y) rfl hS (va_runS C hM ⟨m_callB C hc hml hini hco hd hR, C.2.2.2.2 _ hsm⟩ ⟨m_blind, fun U hU hW => ⟨rfl, hK.moved hW.alike, by rw [hU]; exact hP⟩⟩ rfl hn hlv hst (lv_room hroom) hdg ⟨hcs.1, hcs.2⟩) kk
-- ends
theorem m_end {n' : Nat} {M' : Mem} {v : Option Value} {res : Option Value → Mem → Prop} (hP : m_H D cA b n' M' H) (hS : va_S (m_A b) s.heap H locs) (hq : res v M') (t : State) (ht : t.heap = H) : m_Q D cA b n' res args s (.returned v) t := ⟨⟨v, M', rfl, hq, by rw [ht]; exact hP⟩, hS.F ht⟩
theorem m_vret {n' mc ms : Nat} {M' : Mem} {P : Mem → Prop} (C : CallFix p m c cc nL s args lw_T own) (hr : meth.sig.returnType = none) (hlk : meth.locks = false) (hP : m_H D cA b n' M' H) (hS : va_S (m_A b) s.heap H locs) (hdg : decode cc pc = .ok (.return_, 1)) (hq : P M') : W p l e R s m args below meth c H locs mc ms (MQ below (m_Q D cA b n' (rV P)) args s mc ms (m_A b)) (F0 m pc ls []) :=
  W.vret C.1 C.2.1 hr (fun t ht _ => m_end hP hS ⟨rfl, hq⟩ t ht) hS.2.2 hdg hlk
theorem m_iret {n' mc ms : Nat} {M' : Mem} {P : Int32 → Mem → Prop} {v : Int32} (C : CallFix p m c cc nL s args lw_T own) (hr : meth.sig.returnType = some .int) (hlk : meth.locks = false) (hP : m_H D cA b n' M' H) (hS : va_S (m_A b) s.heap H locs) (hdg : decode cc pc = .ok (.ireturn, 1)) (hq : P v M') : W p l e R s m args below meth c H locs mc ms (MQ below (m_Q D cA b n' (rI P)) args s mc ms (m_A b)) (F0 m pc ls [.int v]) :=
  W.iret C.1 C.2.1 hr (fun t ht _ => m_end hP hS ⟨v, rfl, hq⟩ t ht) hS.2.2 hdg hlk
theorem m_zret {n' mc ms : Nat} {M' : Mem} {P : Bool → Mem → Prop} {v : Bool} (C : CallFix p m c cc nL s args lw_T own) (hr : meth.sig.returnType = some .boolean) (hlk : meth.locks = false) (hP : m_H D cA b n' M' H) (hS : va_S (m_A b) s.heap H locs) (hdg : decode cc pc = .ok (.ireturn, 1)) (hq : P v M') : W p l e R s m args below meth c H locs mc ms (MQ below (m_Q D cA b n' (rZ P)) args s mc ms (m_A b)) (F0 m pc ls [.int (bI v)]) :=
  W.zret C.1 C.2.1 hr (bI_nar v) (fun t ht _ => m_end hP hS ⟨v, rfl, hq⟩ t ht) hS.2.2 hdg hlk
theorem m_lret {n' mc ms : Nat} {M' : Mem} {P : Int64 → Mem → Prop} {v : Int64} (C : CallFix p m c cc nL s args lw_T own) (hr : meth.sig.returnType = some .long) (hlk : meth.locks = false) (hP : m_H D cA b n' M' H) (hS : va_S (m_A b) s.heap H locs) (hdg : decode cc pc = .ok (.lreturn, 1)) (hq : P v M') : W p l e R s m args below meth c H locs mc ms (MQ below (m_Q D cA b n' (rL P)) args s mc ms (m_A b)) (F0 m pc ls [.long v]) :=
  W.lret C.1 C.2.1 hr (fun t ht _ => m_end hP hS ⟨v, rfl, hq⟩ t ht) hS.2.2 hdg hlk
theorem m_dret {n' mc ms : Nat} {M' : Mem} {P : UInt64 → Mem → Prop} {v : UInt64} (C : CallFix p m c cc nL s args lw_T own) (hr : meth.sig.returnType = some .double) (hlk : meth.locks = false) (hP : m_H D cA b n' M' H) (hS : va_S (m_A b) s.heap H locs) (hdg : decode cc pc = .ok (.dreturn, 1)) (hq : P v M') : W p l e R s m args below meth c H locs mc ms (MQ below (m_Q D cA b n' (rD P)) args s mc ms (m_A b)) (F0 m pc ls [.double v]) :=
  W.dret C.1 C.2.1 hr (fun t ht _ => m_end hP hS ⟨v, rfl, hq⟩ t ht) hS.2.2 hdg hlk
theorem m_rret {n' mc ms v : Nat} {nm : String} {M' : Mem} {P : Nat → Mem → Prop} (C : CallFix p m c cc nL s args lw_T own) (hr : meth.sig.returnType = some (.object nm)) (hlk : meth.locks = false) (hP : m_H D cA b n' M' H) (hS : va_S (m_A b) s.heap H locs) (hdg : decode cc pc = .ok (.areturn, 1)) (hq : P v M') : W p l e R s m args below meth c H locs mc ms (MQ below (m_Q D cA b n' (rR b P)) args s mc ms (m_A b)) (F0 m pc ls [.ref (b + v)]) :=
  W.aret C.1 C.2.1 hr (Or.inl ⟨nm, rfl⟩) (Or.inr ⟨_, rfl⟩) (fun t ht _ => m_end hP hS ⟨v, rfl, hq⟩ t ht) hS.2.2 hdg hlk
theorem m_oret {n' mc ms : Nat} {v : Option Nat} {nm : String} {M' : Mem} {P : Option Nat → Mem → Prop} (C : CallFix p m c cc nL s args lw_T own) (hr : meth.sig.returnType = some (.object nm)) (hlk : meth.locks = false) (hP : m_H D cA b n' M' H) (hS : va_S (m_A b) s.heap H locs) (hdg : decode cc pc = .ok (.areturn, 1)) (hq : P v M') : W p l e R s m args below meth c H locs mc ms (MQ below (m_Q D cA b n' (rO b P)) args s mc ms (m_A b)) (F0 m pc ls [va_rf (v.map (fun j => b + j))]) :=
  W.aret C.1 C.2.1 hr (Or.inl ⟨nm, rfl⟩) (va_rf_or _) (fun t ht _ => m_end hP hS ⟨v, rfl, hq⟩ t ht) hS.2.2 hdg hlk
/-- a reference that may be null, put into a local -/
theorem m_astO_n {k : Fin 4} {i : Nat} {r : Option Nat} {lv lv' : List (Nat × Value)} (hexec : p.tables.exec = Jvm.exec) (hb : c.code = cc) (hdg : decode cc pc = .ok (.astore_n k, 1)) (hi : (k : Nat) = i) (h : lv_has ls nL lv) (hn : i < nL) (hl : (i, va_rf r) :: lv.filter (fun q => !(q.1 == i) && !(q.1 + 1 == i && q.2.category == 2)) = lv')
    (kk : ∀ ls' : Array Slot, lv_has ls' nL lv' → W p l e R s m args below meth c H locs cells slots Q (F0 m (pc + 1) ls' rest)) : W p l e R s m args below meth c H locs cells slots Q (F0 m pc ls (va_rf r :: rest)) := by
  cases r with
  | none => exact lv_astore_nN hexec hb hdg hi h hn hl kk
  | some a => exact lv_astore_n hexec hb hdg hi h hn hl kk
theorem m_astO {i : Nat} {r : Option Nat} {lv lv' : List (Nat × Value)} (hexec : p.tables.exec = Jvm.exec) (hb : c.code = cc) (hdg : decode cc pc = .ok (.astore i, 2)) (h : lv_has ls nL lv) (hn : i < nL) (hl : (i, va_rf r) :: lv.filter (fun q => !(q.1 == i) && !(q.1 + 1 == i && q.2.category == 2)) = lv')
    (kk : ∀ ls' : Array Slot, lv_has ls' nL lv' → W p l e R s m args below meth c H locs cells slots Q (F0 m (pc + 2) ls' rest)) : W p l e R s m args below meth c H locs cells slots Q (F0 m pc ls (va_rf r :: rest)) := by
  cases r with
  | none => exact lv_astoreN hexec hb hdg h hn hl kk
  | some a => exact lv_astore hexec hb hdg h hn hl kk
theorem m_aldO_n {k : Fin 4} {i : Nat} {r : Option Nat} (hexec : p.tables.exec = Jvm.exec) (hb : c.code = cc) (hdg : decode cc pc = .ok (.aload_n k, 1)) (hi : (k : Nat) = i) (hl : ls[i]? = some (.val (va_rf r)))
    (kk : W p l e R s m args below meth c H locs cells slots Q (F0 m (pc + 1) ls (va_rf r :: rest))) : W p l e R s m args below meth c H locs cells slots Q (F0 m pc ls rest) := by
  cases r with
  | none => exact lv_aload_nN hexec hb hdg hi hl kk
  | some a => exact lv_aload_n hexec hb hdg hi hl kk
theorem m_aldO {i : Nat} {r : Option Nat} (hexec : p.tables.exec = Jvm.exec) (hb : c.code = cc) (hdg : decode cc pc = .ok (.aload i, 2)) (hl : ls[i]? = some (.val (va_rf r)))
    (kk : W p l e R s m args below meth c H locs cells slots Q (F0 m (pc + 2) ls (va_rf r :: rest))) : W p l e R s m args below meth c H locs cells slots Q (F0 m pc ls rest) := by
  cases r with
  | none => exact lv_aloadN hexec hb hdg hl kk
  | some a => exact lv_aload hexec hb hdg hl kk
theorem m_case {dflt lo hi : Int} {offs : Array Int} {len tgt : Nat} {x v : Int32} {off : Int} (hexec : p.tables.exec = Jvm.exec) (hb : c.code = cc) (cx : x = v) (hdg : decode cc pc = .ok (.tableswitch dflt lo hi offs, len)) (h1 : ¬ v.toInt < lo) (h2 : ¬ hi < v.toInt) (ho : offs[(v.toInt - lo).toNat]? = some off) (ht : (pc : Int) + off = (tgt : Int))
    (k : W p l e R s m args below meth c H locs cells slots Q (F0 m tgt ls rest)) : W p l e R s m args below meth c H locs cells slots Q (F0 m pc ls (.int x :: rest)) := by
  subst cx
  exact lv_tableIn hexec hb hdg h1 h2 ho ht k
theorem m_lcase {dflt : Int} {ps : Array (Int × Int)} {len tgt : Nat} {x v : Int32} {off : Int} (hexec : p.tables.exec = Jvm.exec) (hb : c.code = cc) (cx : x = v) (hdg : decode cc pc = .ok (.lookupswitch dflt ps, len)) (hp : (ps.toList.zip (ps.toList.drop 1)).all (fun (a, next) => a.1 < next.1) = true) (ho : Op.lookupswitch.offset ps.toList dflt v.toInt = off) (ht : (pc : Int) + off = (tgt : Int))
    (k : W p l e R s m args below meth c H locs cells slots Q (F0 m tgt ls rest)) : W p l e R s m args below meth c H locs cells slots Q (F0 m pc ls (.int x :: rest)) := by
  subst cx
  exact lv_lookup hexec hb hdg hp ho ht k
end MR
theorem i_ne {x k : Int32} (h : ¬ x = k) : x.toInt ≠ k.toInt := fun e => h (Int32.toInt_inj.mp e)
end
