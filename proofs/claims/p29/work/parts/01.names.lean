/-- a private method of a class that the tables say can be made, by its rows of tables_1 -/
def lw_okq (q : MethodName × Nat) : Prop := (q.1.cls ≠ "java/lang/invoke/MethodHandle" ∧ q.1.cls ≠ "java/lang/invoke/VarHandle") ∧ Cond.instantiable q.1.cls q.2 ∈ tables_1 ∧ Cond.privateMethod q.1 ∈ tables_1 ∧ Cond.instanceMethod q.1 ∈ tables_1
theorem lw_p0 : lw_okq (⟨"SleepMint$Reader", "isGood", "()Z"⟩, 7) := ⟨⟨by decide +kernel, by decide +kernel⟩, List.mem_of_getElem? (i := 154) (by decide +kernel), List.mem_of_getElem? (i := 344) (by decide +kernel), List.mem_of_getElem? (i := 345) (by decide +kernel)⟩
theorem lw_p1 : lw_okq (⟨"SleepMint$Reader", "peek", "()I"⟩, 7) := ⟨⟨by decide +kernel, by decide +kernel⟩, List.mem_of_getElem? (i := 154) (by decide +kernel), List.mem_of_getElem? (i := 348) (by decide +kernel), List.mem_of_getElem? (i := 349) (by decide +kernel)⟩
theorem lw_p2 : lw_okq (⟨"SleepMint$Reader", "readClause", "()V"⟩, 7) := ⟨⟨by decide +kernel, by decide +kernel⟩, List.mem_of_getElem? (i := 154) (by decide +kernel), List.mem_of_getElem? (i := 352) (by decide +kernel), List.mem_of_getElem? (i := 353) (by decide +kernel)⟩
theorem lw_p3 : lw_okq (⟨"SleepMint$Reader", "fail", "(II)V"⟩, 7) := ⟨⟨by decide +kernel, by decide +kernel⟩, List.mem_of_getElem? (i := 154) (by decide +kernel), List.mem_of_getElem? (i := 356) (by decide +kernel), List.mem_of_getElem? (i := 357) (by decide +kernel)⟩
theorem lw_p4 : lw_okq (⟨"SleepMint$Reader", "readBeds", "()V"⟩, 7) := ⟨⟨by decide +kernel, by decide +kernel⟩, List.mem_of_getElem? (i := 154) (by decide +kernel), List.mem_of_getElem? (i := 360) (by decide +kernel), List.mem_of_getElem? (i := 361) (by decide +kernel)⟩
theorem lw_p5 : lw_okq (⟨"SleepMint$Reader", "stepOverWord", "(Z)V"⟩, 7) := ⟨⟨by decide +kernel, by decide +kernel⟩, List.mem_of_getElem? (i := 154) (by decide +kernel), List.mem_of_getElem? (i := 364) (by decide +kernel), List.mem_of_getElem? (i := 365) (by decide +kernel)⟩
theorem lw_p6 : lw_okq (⟨"SleepMint$Reader", "readNumber", "(II)I"⟩, 7) := ⟨⟨by decide +kernel, by decide +kernel⟩, List.mem_of_getElem? (i := 154) (by decide +kernel), List.mem_of_getElem? (i := 368) (by decide +kernel), List.mem_of_getElem? (i := 369) (by decide +kernel)⟩
theorem lw_p7 : lw_okq (⟨"SleepMint$Reader", "readPerson", "()V"⟩, 7) := ⟨⟨by decide +kernel, by decide +kernel⟩, List.mem_of_getElem? (i := 154) (by decide +kernel), List.mem_of_getElem? (i := 376) (by decide +kernel), List.mem_of_getElem? (i := 377) (by decide +kernel)⟩
theorem lw_p8 : lw_okq (⟨"SleepMint$Reader", "readDoing", "()I"⟩, 7) := ⟨⟨by decide +kernel, by decide +kernel⟩, List.mem_of_getElem? (i := 154) (by decide +kernel), List.mem_of_getElem? (i := 380) (by decide +kernel), List.mem_of_getElem? (i := 381) (by decide +kernel)⟩
theorem lw_p9 : lw_okq (⟨"SleepMint$Reader", "readCoin", "()V"⟩, 7) := ⟨⟨by decide +kernel, by decide +kernel⟩, List.mem_of_getElem? (i := 154) (by decide +kernel), List.mem_of_getElem? (i := 384) (by decide +kernel), List.mem_of_getElem? (i := 385) (by decide +kernel)⟩
theorem lw_p10 : lw_okq (⟨"SleepMint$Reader", "readDebt", "()V"⟩, 7) := ⟨⟨by decide +kernel, by decide +kernel⟩, List.mem_of_getElem? (i := 154) (by decide +kernel), List.mem_of_getElem? (i := 392) (by decide +kernel), List.mem_of_getElem? (i := 393) (by decide +kernel)⟩
theorem lw_p11 : lw_okq (⟨"SleepMint$Reader", "readYawn", "()V"⟩, 7) := ⟨⟨by decide +kernel, by decide +kernel⟩, List.mem_of_getElem? (i := 154) (by decide +kernel), List.mem_of_getElem? (i := 396) (by decide +kernel), List.mem_of_getElem? (i := 397) (by decide +kernel)⟩
theorem lw_p12 : lw_okq (⟨"SleepMint$Reader", "expect", "(I)V"⟩, 7) := ⟨⟨by decide +kernel, by decide +kernel⟩, List.mem_of_getElem? (i := 154) (by decide +kernel), List.mem_of_getElem? (i := 403) (by decide +kernel), List.mem_of_getElem? (i := 404) (by decide +kernel)⟩
theorem lw_p13 : lw_okq (⟨"SleepMint", "isPerson", "(I)Z"⟩, 12) := ⟨⟨by decide +kernel, by decide +kernel⟩, List.mem_of_getElem? (i := 12) (by decide +kernel), List.mem_of_getElem? (i := 438) (by decide +kernel), List.mem_of_getElem? (i := 439) (by decide +kernel)⟩
theorem lw_p14 : lw_okq (⟨"SleepMint", "debtState", "(I)I"⟩, 12) := ⟨⟨by decide +kernel, by decide +kernel⟩, List.mem_of_getElem? (i := 12) (by decide +kernel), List.mem_of_getElem? (i := 455) (by decide +kernel), List.mem_of_getElem? (i := 456) (by decide +kernel)⟩
theorem lw_p15 : lw_okq (⟨"SleepMint", "refusalOfHours", "(I)I"⟩, 12) := ⟨⟨by decide +kernel, by decide +kernel⟩, List.mem_of_getElem? (i := 12) (by decide +kernel), List.mem_of_getElem? (i := 464) (by decide +kernel), List.mem_of_getElem? (i := 465) (by decide +kernel)⟩
def lw_privs_1 : List (MethodName × Nat) := [(⟨"SleepMint$Reader", "isGood", "()Z"⟩, 7), (⟨"SleepMint$Reader", "peek", "()I"⟩, 7), (⟨"SleepMint$Reader", "readClause", "()V"⟩, 7), (⟨"SleepMint$Reader", "fail", "(II)V"⟩, 7), (⟨"SleepMint$Reader", "readBeds", "()V"⟩, 7), (⟨"SleepMint$Reader", "stepOverWord", "(Z)V"⟩, 7), (⟨"SleepMint$Reader", "readNumber", "(II)I"⟩, 7), (⟨"SleepMint$Reader", "readPerson", "()V"⟩, 7), (⟨"SleepMint$Reader", "readDoing", "()I"⟩, 7), (⟨"SleepMint$Reader", "readCoin", "()V"⟩, 7), (⟨"SleepMint$Reader", "readDebt", "()V"⟩, 7), (⟨"SleepMint$Reader", "readYawn", "()V"⟩, 7), (⟨"SleepMint$Reader", "expect", "(I)V"⟩, 7), (⟨"SleepMint", "isPerson", "(I)Z"⟩, 12), (⟨"SleepMint", "debtState", "(I)I"⟩, 12), (⟨"SleepMint", "refusalOfHours", "(I)I"⟩, 12)]
theorem lw_r1 : ∀ q ∈ lw_privs_1, lw_okq q := List.forall_mem_cons.mpr ⟨lw_p0, List.forall_mem_cons.mpr ⟨lw_p1, List.forall_mem_cons.mpr ⟨lw_p2, List.forall_mem_cons.mpr ⟨lw_p3, List.forall_mem_cons.mpr ⟨lw_p4, List.forall_mem_cons.mpr ⟨lw_p5, List.forall_mem_cons.mpr ⟨lw_p6, List.forall_mem_cons.mpr ⟨lw_p7, List.forall_mem_cons.mpr ⟨lw_p8, List.forall_mem_cons.mpr ⟨lw_p9, List.forall_mem_cons.mpr ⟨lw_p10, List.forall_mem_cons.mpr ⟨lw_p11, List.forall_mem_cons.mpr ⟨lw_p12, List.forall_mem_cons.mpr ⟨lw_p13, List.forall_mem_cons.mpr ⟨lw_p14, List.forall_mem_cons.mpr ⟨lw_p15, fun _ h => absurd h List.not_mem_nil⟩⟩⟩⟩⟩⟩⟩⟩⟩⟩⟩⟩⟩⟩⟩⟩
theorem lw_p16 : lw_okq (⟨"SleepMint$Moment", "lie", "(ILSleepMint$Town;)V"⟩, 8) := ⟨⟨by decide +kernel, by decide +kernel⟩, List.mem_of_getElem? (i := 26) (by decide +kernel), List.mem_of_getElem? (i := 478) (by decide +kernel), List.mem_of_getElem? (i := 479) (by decide +kernel)⟩
theorem lw_p17 : lw_okq (⟨"SleepMint$Moment", "tire", "(II)V"⟩, 8) := ⟨⟨by decide +kernel, by decide +kernel⟩, List.mem_of_getElem? (i := 26) (by decide +kernel), List.mem_of_getElem? (i := 488) (by decide +kernel), List.mem_of_getElem? (i := 489) (by decide +kernel)⟩
theorem lw_p18 : lw_okq (⟨"SleepMint$Moment", "callDebts", "(LSleepMint$Town;)V"⟩, 8) := ⟨⟨by decide +kernel, by decide +kernel⟩, List.mem_of_getElem? (i := 26) (by decide +kernel), List.mem_of_getElem? (i := 492) (by decide +kernel), List.mem_of_getElem? (i := 493) (by decide +kernel)⟩
theorem lw_p19 : lw_okq (⟨"SleepMint$Moment", "draw", "(I)I"⟩, 8) := ⟨⟨by decide +kernel, by decide +kernel⟩, List.mem_of_getElem? (i := 26) (by decide +kernel), List.mem_of_getElem? (i := 504) (by decide +kernel), List.mem_of_getElem? (i := 505) (by decide +kernel)⟩
theorem lw_p20 : lw_okq (⟨"SleepMint$LifePlan", "isMade", "(LSleepMint$Moment;II)Z"⟩, 16) := ⟨⟨by decide +kernel, by decide +kernel⟩, List.mem_of_getElem? (i := 190) (by decide +kernel), List.mem_of_getElem? (i := 541) (by decide +kernel), List.mem_of_getElem? (i := 542) (by decide +kernel)⟩
theorem lw_p21 : lw_okq (⟨"SleepMint$LifePlan", "prepareTables", "(LSleepMint$Town;)V"⟩, 16) := ⟨⟨by decide +kernel, by decide +kernel⟩, List.mem_of_getElem? (i := 190) (by decide +kernel), List.mem_of_getElem? (i := 545) (by decide +kernel), List.mem_of_getElem? (i := 546) (by decide +kernel)⟩
theorem lw_p22 : lw_okq (⟨"SleepMint$LifePlan", "clearLastEarnings", "()V"⟩, 16) := ⟨⟨by decide +kernel, by decide +kernel⟩, List.mem_of_getElem? (i := 190) (by decide +kernel), List.mem_of_getElem? (i := 550) (by decide +kernel), List.mem_of_getElem? (i := 551) (by decide +kernel)⟩
theorem lw_p23 : lw_okq (⟨"SleepMint$LifePlan", "learnEarnings", "(I)V"⟩, 16) := ⟨⟨by decide +kernel, by decide +kernel⟩, List.mem_of_getElem? (i := 190) (by decide +kernel), List.mem_of_getElem? (i := 554) (by decide +kernel), List.mem_of_getElem? (i := 555) (by decide +kernel)⟩
theorem lw_p24 : lw_okq (⟨"SleepMint$LifePlan", "placeAtWork", "(II)I"⟩, 16) := ⟨⟨by decide +kernel, by decide +kernel⟩, List.mem_of_getElem? (i := 190) (by decide +kernel), List.mem_of_getElem? (i := 558) (by decide +kernel), List.mem_of_getElem? (i := 559) (by decide +kernel)⟩
theorem lw_p25 : lw_okq (⟨"SleepMint$LifePlan", "place", "(III)I"⟩, 16) := ⟨⟨by decide +kernel, by decide +kernel⟩, List.mem_of_getElem? (i := 190) (by decide +kernel), List.mem_of_getElem? (i := 566) (by decide +kernel), List.mem_of_getElem? (i := 567) (by decide +kernel)⟩
theorem lw_p26 : lw_okq (⟨"SleepMint$LifePlan", "earned", "(I)I"⟩, 16) := ⟨⟨by decide +kernel, by decide +kernel⟩, List.mem_of_getElem? (i := 190) (by decide +kernel), List.mem_of_getElem? (i := 570) (by decide +kernel), List.mem_of_getElem? (i := 571) (by decide +kernel)⟩
theorem lw_p27 : lw_okq (⟨"SleepMint$LifePlan", "placeAsleep", "(III)I"⟩, 16) := ⟨⟨by decide +kernel, by decide +kernel⟩, List.mem_of_getElem? (i := 190) (by decide +kernel), List.mem_of_getElem? (i := 574) (by decide +kernel), List.mem_of_getElem? (i := 575) (by decide +kernel)⟩
theorem lw_p28 : lw_okq (⟨"SleepMint$LifePlan", "longerSleep", "(I)I"⟩, 16) := ⟨⟨by decide +kernel, by decide +kernel⟩, List.mem_of_getElem? (i := 190) (by decide +kernel), List.mem_of_getElem? (i := 582) (by decide +kernel), List.mem_of_getElem? (i := 583) (by decide +kernel)⟩
theorem lw_p29 : lw_okq (⟨"SleepMint$LifePlan", "countOwed", "(LSleepMint$Town;)V"⟩, 16) := ⟨⟨by decide +kernel, by decide +kernel⟩, List.mem_of_getElem? (i := 190) (by decide +kernel), List.mem_of_getElem? (i := 586) (by decide +kernel), List.mem_of_getElem? (i := 587) (by decide +kernel)⟩
theorem lw_p30 : lw_okq (⟨"SleepMint$LifePlan", "spread", "()V"⟩, 16) := ⟨⟨by decide +kernel, by decide +kernel⟩, List.mem_of_getElem? (i := 190) (by decide +kernel), List.mem_of_getElem? (i := 592) (by decide +kernel), List.mem_of_getElem? (i := 593) (by decide +kernel)⟩
theorem lw_p31 : lw_okq (⟨"SleepMint$LifePlan", "clearHour", "(I)V"⟩, 16) := ⟨⟨by decide +kernel, by decide +kernel⟩, List.mem_of_getElem? (i := 190) (by decide +kernel), List.mem_of_getElem? (i := 596) (by decide +kernel), List.mem_of_getElem? (i := 597) (by decide +kernel)⟩
def lw_privs_2 : List (MethodName × Nat) := [(⟨"SleepMint$Moment", "lie", "(ILSleepMint$Town;)V"⟩, 8), (⟨"SleepMint$Moment", "tire", "(II)V"⟩, 8), (⟨"SleepMint$Moment", "callDebts", "(LSleepMint$Town;)V"⟩, 8), (⟨"SleepMint$Moment", "draw", "(I)I"⟩, 8), (⟨"SleepMint$LifePlan", "isMade", "(LSleepMint$Moment;II)Z"⟩, 16), (⟨"SleepMint$LifePlan", "prepareTables", "(LSleepMint$Town;)V"⟩, 16), (⟨"SleepMint$LifePlan", "clearLastEarnings", "()V"⟩, 16), (⟨"SleepMint$LifePlan", "learnEarnings", "(I)V"⟩, 16), (⟨"SleepMint$LifePlan", "placeAtWork", "(II)I"⟩, 16), (⟨"SleepMint$LifePlan", "place", "(III)I"⟩, 16), (⟨"SleepMint$LifePlan", "earned", "(I)I"⟩, 16), (⟨"SleepMint$LifePlan", "placeAsleep", "(III)I"⟩, 16), (⟨"SleepMint$LifePlan", "longerSleep", "(I)I"⟩, 16), (⟨"SleepMint$LifePlan", "countOwed", "(LSleepMint$Town;)V"⟩, 16), (⟨"SleepMint$LifePlan", "spread", "()V"⟩, 16), (⟨"SleepMint$LifePlan", "clearHour", "(I)V"⟩, 16)]
theorem lw_r2 : ∀ q ∈ lw_privs_2, lw_okq q := List.forall_mem_cons.mpr ⟨lw_p16, List.forall_mem_cons.mpr ⟨lw_p17, List.forall_mem_cons.mpr ⟨lw_p18, List.forall_mem_cons.mpr ⟨lw_p19, List.forall_mem_cons.mpr ⟨lw_p20, List.forall_mem_cons.mpr ⟨lw_p21, List.forall_mem_cons.mpr ⟨lw_p22, List.forall_mem_cons.mpr ⟨lw_p23, List.forall_mem_cons.mpr ⟨lw_p24, List.forall_mem_cons.mpr ⟨lw_p25, List.forall_mem_cons.mpr ⟨lw_p26, List.forall_mem_cons.mpr ⟨lw_p27, List.forall_mem_cons.mpr ⟨lw_p28, List.forall_mem_cons.mpr ⟨lw_p29, List.forall_mem_cons.mpr ⟨lw_p30, List.forall_mem_cons.mpr ⟨lw_p31, fun _ h => absurd h List.not_mem_nil⟩⟩⟩⟩⟩⟩⟩⟩⟩⟩⟩⟩⟩⟩⟩⟩
theorem lw_p32 : lw_okq (⟨"SleepMint$LifePlan", "mostTired", "(I)I"⟩, 16) := ⟨⟨by decide +kernel, by decide +kernel⟩, List.mem_of_getElem? (i := 190) (by decide +kernel), List.mem_of_getElem? (i := 600) (by decide +kernel), List.mem_of_getElem? (i := 601) (by decide +kernel)⟩
theorem lw_p33 : lw_okq (⟨"SleepMint$LifePlan", "leastTired", "(I)I"⟩, 16) := ⟨⟨by decide +kernel, by decide +kernel⟩, List.mem_of_getElem? (i := 190) (by decide +kernel), List.mem_of_getElem? (i := 604) (by decide +kernel), List.mem_of_getElem? (i := 605) (by decide +kernel)⟩
theorem lw_p34 : lw_okq (⟨"SleepMint$LifePlan", "spreadHour", "(II)V"⟩, 16) := ⟨⟨by decide +kernel, by decide +kernel⟩, List.mem_of_getElem? (i := 190) (by decide +kernel), List.mem_of_getElem? (i := 608) (by decide +kernel), List.mem_of_getElem? (i := 609) (by decide +kernel)⟩
theorem lw_p35 : lw_okq (⟨"SleepMint$LifePlan", "purseAsleep", "(III)I"⟩, 16) := ⟨⟨by decide +kernel, by decide +kernel⟩, List.mem_of_getElem? (i := 190) (by decide +kernel), List.mem_of_getElem? (i := 612) (by decide +kernel), List.mem_of_getElem? (i := 613) (by decide +kernel)⟩
theorem lw_p36 : lw_okq (⟨"SleepMint$LifePlan", "offer", "(II)V"⟩, 16) := ⟨⟨by decide +kernel, by decide +kernel⟩, List.mem_of_getElem? (i := 190) (by decide +kernel), List.mem_of_getElem? (i := 616) (by decide +kernel), List.mem_of_getElem? (i := 617) (by decide +kernel)⟩
theorem lw_p37 : lw_okq (⟨"SleepMint$LifePlan", "mostAtEnd", "()I"⟩, 16) := ⟨⟨by decide +kernel, by decide +kernel⟩, List.mem_of_getElem? (i := 190) (by decide +kernel), List.mem_of_getElem? (i := 620) (by decide +kernel), List.mem_of_getElem? (i := 621) (by decide +kernel)⟩
theorem lw_p38 : lw_okq (⟨"SleepMint$LifePlan", "turnToNeeds", "()V"⟩, 16) := ⟨⟨by decide +kernel, by decide +kernel⟩, List.mem_of_getElem? (i := 190) (by decide +kernel), List.mem_of_getElem? (i := 624) (by decide +kernel), List.mem_of_getElem? (i := 625) (by decide +kernel)⟩
theorem lw_p39 : lw_okq (⟨"SleepMint$LifePlan", "turnHourToNeeds", "(II)V"⟩, 16) := ⟨⟨by decide +kernel, by decide +kernel⟩, List.mem_of_getElem? (i := 190) (by decide +kernel), List.mem_of_getElem? (i := 628) (by decide +kernel), List.mem_of_getElem? (i := 629) (by decide +kernel)⟩
theorem lw_p40 : lw_okq (⟨"SleepMint$LifePlan", "needOf", "(III)I"⟩, 16) := ⟨⟨by decide +kernel, by decide +kernel⟩, List.mem_of_getElem? (i := 190) (by decide +kernel), List.mem_of_getElem? (i := 632) (by decide +kernel), List.mem_of_getElem? (i := 633) (by decide +kernel)⟩
theorem lw_p41 : lw_okq (⟨"SleepMint$LifePlan", "needAt", "(III)I"⟩, 16) := ⟨⟨by decide +kernel, by decide +kernel⟩, List.mem_of_getElem? (i := 190) (by decide +kernel), List.mem_of_getElem? (i := 636) (by decide +kernel), List.mem_of_getElem? (i := 637) (by decide +kernel)⟩
theorem lw_p42 : lw_okq (⟨"SleepMint$LifePlan", "needBefore", "(III)I"⟩, 16) := ⟨⟨by decide +kernel, by decide +kernel⟩, List.mem_of_getElem? (i := 190) (by decide +kernel), List.mem_of_getElem? (i := 640) (by decide +kernel), List.mem_of_getElem? (i := 641) (by decide +kernel)⟩
theorem lw_p43 : lw_okq (⟨"SleepMint$LifePlan", "walk", "()V"⟩, 16) := ⟨⟨by decide +kernel, by decide +kernel⟩, List.mem_of_getElem? (i := 190) (by decide +kernel), List.mem_of_getElem? (i := 644) (by decide +kernel), List.mem_of_getElem? (i := 645) (by decide +kernel)⟩
theorem lw_p44 : lw_okq (⟨"SleepMint$CoinTable", "addCoin", "(I)V"⟩, 7) := ⟨⟨by decide +kernel, by decide +kernel⟩, List.mem_of_getElem? (i := 247) (by decide +kernel), List.mem_of_getElem? (i := 661) (by decide +kernel), List.mem_of_getElem? (i := 662) (by decide +kernel)⟩
theorem lw_p45 : lw_okq (⟨"SleepMint$CoinTable", "countTaken", "(II)I"⟩, 7) := ⟨⟨by decide +kernel, by decide +kernel⟩, List.mem_of_getElem? (i := 247) (by decide +kernel), List.mem_of_getElem? (i := 670) (by decide +kernel), List.mem_of_getElem? (i := 671) (by decide +kernel)⟩
theorem lw_p46 : lw_okq (⟨"SleepMint$CoinTable", "totalWith", "(I)I"⟩, 7) := ⟨⟨by decide +kernel, by decide +kernel⟩, List.mem_of_getElem? (i := 247) (by decide +kernel), List.mem_of_getElem? (i := 682) (by decide +kernel), List.mem_of_getElem? (i := 683) (by decide +kernel)⟩
theorem lw_p47 : lw_okq (⟨"SleepMint", "nextToRun", "(II)I"⟩, 12) := ⟨⟨by decide +kernel, by decide +kernel⟩, List.mem_of_getElem? (i := 12) (by decide +kernel), List.mem_of_getElem? (i := 714) (by decide +kernel), List.mem_of_getElem? (i := 715) (by decide +kernel)⟩
def lw_privs_3 : List (MethodName × Nat) := [(⟨"SleepMint$LifePlan", "mostTired", "(I)I"⟩, 16), (⟨"SleepMint$LifePlan", "leastTired", "(I)I"⟩, 16), (⟨"SleepMint$LifePlan", "spreadHour", "(II)V"⟩, 16), (⟨"SleepMint$LifePlan", "purseAsleep", "(III)I"⟩, 16), (⟨"SleepMint$LifePlan", "offer", "(II)V"⟩, 16), (⟨"SleepMint$LifePlan", "mostAtEnd", "()I"⟩, 16), (⟨"SleepMint$LifePlan", "turnToNeeds", "()V"⟩, 16), (⟨"SleepMint$LifePlan", "turnHourToNeeds", "(II)V"⟩, 16), (⟨"SleepMint$LifePlan", "needOf", "(III)I"⟩, 16), (⟨"SleepMint$LifePlan", "needAt", "(III)I"⟩, 16), (⟨"SleepMint$LifePlan", "needBefore", "(III)I"⟩, 16), (⟨"SleepMint$LifePlan", "walk", "()V"⟩, 16), (⟨"SleepMint$CoinTable", "addCoin", "(I)V"⟩, 7), (⟨"SleepMint$CoinTable", "countTaken", "(II)I"⟩, 7), (⟨"SleepMint$CoinTable", "totalWith", "(I)I"⟩, 7), (⟨"SleepMint", "nextToRun", "(II)I"⟩, 12)]
theorem lw_r3 : ∀ q ∈ lw_privs_3, lw_okq q := List.forall_mem_cons.mpr ⟨lw_p32, List.forall_mem_cons.mpr ⟨lw_p33, List.forall_mem_cons.mpr ⟨lw_p34, List.forall_mem_cons.mpr ⟨lw_p35, List.forall_mem_cons.mpr ⟨lw_p36, List.forall_mem_cons.mpr ⟨lw_p37, List.forall_mem_cons.mpr ⟨lw_p38, List.forall_mem_cons.mpr ⟨lw_p39, List.forall_mem_cons.mpr ⟨lw_p40, List.forall_mem_cons.mpr ⟨lw_p41, List.forall_mem_cons.mpr ⟨lw_p42, List.forall_mem_cons.mpr ⟨lw_p43, List.forall_mem_cons.mpr ⟨lw_p44, List.forall_mem_cons.mpr ⟨lw_p45, List.forall_mem_cons.mpr ⟨lw_p46, List.forall_mem_cons.mpr ⟨lw_p47, fun _ h => absurd h List.not_mem_nil⟩⟩⟩⟩⟩⟩⟩⟩⟩⟩⟩⟩⟩⟩⟩⟩
theorem lw_p48 : lw_okq (⟨"SleepMint", "imageOf", "(I)LSleepMint$Moment;"⟩, 12) := ⟨⟨by decide +kernel, by decide +kernel⟩, List.mem_of_getElem? (i := 12) (by decide +kernel), List.mem_of_getElem? (i := 738) (by decide +kernel), List.mem_of_getElem? (i := 739) (by decide +kernel)⟩
theorem lw_p49 : lw_okq (⟨"SleepMintModel", "here", "()I"⟩, 44) := ⟨⟨by decide +kernel, by decide +kernel⟩, List.mem_of_getElem? (i := 746) (by decide +kernel), List.mem_of_getElem? (i := 899) (by decide +kernel), List.mem_of_getElem? (i := 900) (by decide +kernel)⟩
theorem lw_p50 : lw_okq (⟨"SleepMintModel", "takeClause", "()I"⟩, 44) := ⟨⟨by decide +kernel, by decide +kernel⟩, List.mem_of_getElem? (i := 746) (by decide +kernel), List.mem_of_getElem? (i := 903) (by decide +kernel), List.mem_of_getElem? (i := 904) (by decide +kernel)⟩
theorem lw_p51 : lw_okq (⟨"SleepMintModel", "fails", "(II)I"⟩, 44) := ⟨⟨by decide +kernel, by decide +kernel⟩, List.mem_of_getElem? (i := 746) (by decide +kernel), List.mem_of_getElem? (i := 907) (by decide +kernel), List.mem_of_getElem? (i := 908) (by decide +kernel)⟩
theorem lw_p52 : lw_okq (⟨"SleepMintModel", "takeMint", "()I"⟩, 44) := ⟨⟨by decide +kernel, by decide +kernel⟩, List.mem_of_getElem? (i := 746) (by decide +kernel), List.mem_of_getElem? (i := 911) (by decide +kernel), List.mem_of_getElem? (i := 912) (by decide +kernel)⟩
theorem lw_p53 : lw_okq (⟨"SleepMintModel", "into", "([IIII)I"⟩, 44) := ⟨⟨by decide +kernel, by decide +kernel⟩, List.mem_of_getElem? (i := 746) (by decide +kernel), List.mem_of_getElem? (i := 915) (by decide +kernel), List.mem_of_getElem? (i := 916) (by decide +kernel)⟩
theorem lw_p54 : lw_okq (⟨"SleepMintModel", "takeNumber", "(II)I"⟩, 44) := ⟨⟨by decide +kernel, by decide +kernel⟩, List.mem_of_getElem? (i := 746) (by decide +kernel), List.mem_of_getElem? (i := 919) (by decide +kernel), List.mem_of_getElem? (i := 920) (by decide +kernel)⟩
theorem lw_p55 : lw_okq (⟨"SleepMintModel", "takePerson", "()I"⟩, 44) := ⟨⟨by decide +kernel, by decide +kernel⟩, List.mem_of_getElem? (i := 746) (by decide +kernel), List.mem_of_getElem? (i := 925) (by decide +kernel), List.mem_of_getElem? (i := 926) (by decide +kernel)⟩
theorem lw_p56 : lw_okq (⟨"SleepMintModel", "takeRow", "(I)I"⟩, 44) := ⟨⟨by decide +kernel, by decide +kernel⟩, List.mem_of_getElem? (i := 746) (by decide +kernel), List.mem_of_getElem? (i := 929) (by decide +kernel), List.mem_of_getElem? (i := 930) (by decide +kernel)⟩
theorem lw_p57 : lw_okq (⟨"SleepMintModel", "takeCoin", "()I"⟩, 44) := ⟨⟨by decide +kernel, by decide +kernel⟩, List.mem_of_getElem? (i := 746) (by decide +kernel), List.mem_of_getElem? (i := 933) (by decide +kernel), List.mem_of_getElem? (i := 934) (by decide +kernel)⟩
theorem lw_p58 : lw_okq (⟨"SleepMintModel", "takeDebt", "()I"⟩, 44) := ⟨⟨by decide +kernel, by decide +kernel⟩, List.mem_of_getElem? (i := 746) (by decide +kernel), List.mem_of_getElem? (i := 937) (by decide +kernel), List.mem_of_getElem? (i := 938) (by decide +kernel)⟩
theorem lw_p59 : lw_okq (⟨"SleepMintModel", "takeYawn", "()I"⟩, 44) := ⟨⟨by decide +kernel, by decide +kernel⟩, List.mem_of_getElem? (i := 746) (by decide +kernel), List.mem_of_getElem? (i := 941) (by decide +kernel), List.mem_of_getElem? (i := 942) (by decide +kernel)⟩
theorem lw_p60 : lw_okq (⟨"SleepMintModel", "takeRead", "()V"⟩, 44) := ⟨⟨by decide +kernel, by decide +kernel⟩, List.mem_of_getElem? (i := 746) (by decide +kernel), List.mem_of_getElem? (i := 948) (by decide +kernel), List.mem_of_getElem? (i := 949) (by decide +kernel)⟩
theorem lw_p61 : lw_okq (⟨"SleepMintModel", "asleep", "()I"⟩, 44) := ⟨⟨by decide +kernel, by decide +kernel⟩, List.mem_of_getElem? (i := 746) (by decide +kernel), List.mem_of_getElem? (i := 960) (by decide +kernel), List.mem_of_getElem? (i := 961) (by decide +kernel)⟩
theorem lw_p62 : lw_okq (⟨"SleepMintModel", "isPerson", "(I)Z"⟩, 44) := ⟨⟨by decide +kernel, by decide +kernel⟩, List.mem_of_getElem? (i := 746) (by decide +kernel), List.mem_of_getElem? (i := 968) (by decide +kernel), List.mem_of_getElem? (i := 969) (by decide +kernel)⟩
theorem lw_p63 : lw_okq (⟨"SleepMintModel", "hoursRefused", "(I)I"⟩, 44) := ⟨⟨by decide +kernel, by decide +kernel⟩, List.mem_of_getElem? (i := 746) (by decide +kernel), List.mem_of_getElem? (i := 990) (by decide +kernel), List.mem_of_getElem? (i := 991) (by decide +kernel)⟩
def lw_privs_4 : List (MethodName × Nat) := [(⟨"SleepMint", "imageOf", "(I)LSleepMint$Moment;"⟩, 12), (⟨"SleepMintModel", "here", "()I"⟩, 44), (⟨"SleepMintModel", "takeClause", "()I"⟩, 44), (⟨"SleepMintModel", "fails", "(II)I"⟩, 44), (⟨"SleepMintModel", "takeMint", "()I"⟩, 44), (⟨"SleepMintModel", "into", "([IIII)I"⟩, 44), (⟨"SleepMintModel", "takeNumber", "(II)I"⟩, 44), (⟨"SleepMintModel", "takePerson", "()I"⟩, 44), (⟨"SleepMintModel", "takeRow", "(I)I"⟩, 44), (⟨"SleepMintModel", "takeCoin", "()I"⟩, 44), (⟨"SleepMintModel", "takeDebt", "()I"⟩, 44), (⟨"SleepMintModel", "takeYawn", "()I"⟩, 44), (⟨"SleepMintModel", "takeRead", "()V"⟩, 44), (⟨"SleepMintModel", "asleep", "()I"⟩, 44), (⟨"SleepMintModel", "isPerson", "(I)Z"⟩, 44), (⟨"SleepMintModel", "hoursRefused", "(I)I"⟩, 44)]
theorem lw_r4 : ∀ q ∈ lw_privs_4, lw_okq q := List.forall_mem_cons.mpr ⟨lw_p48, List.forall_mem_cons.mpr ⟨lw_p49, List.forall_mem_cons.mpr ⟨lw_p50, List.forall_mem_cons.mpr ⟨lw_p51, List.forall_mem_cons.mpr ⟨lw_p52, List.forall_mem_cons.mpr ⟨lw_p53, List.forall_mem_cons.mpr ⟨lw_p54, List.forall_mem_cons.mpr ⟨lw_p55, List.forall_mem_cons.mpr ⟨lw_p56, List.forall_mem_cons.mpr ⟨lw_p57, List.forall_mem_cons.mpr ⟨lw_p58, List.forall_mem_cons.mpr ⟨lw_p59, List.forall_mem_cons.mpr ⟨lw_p60, List.forall_mem_cons.mpr ⟨lw_p61, List.forall_mem_cons.mpr ⟨lw_p62, List.forall_mem_cons.mpr ⟨lw_p63, fun _ h => absurd h List.not_mem_nil⟩⟩⟩⟩⟩⟩⟩⟩⟩⟩⟩⟩⟩⟩⟩⟩
theorem lw_p64 : lw_okq (⟨"SleepMintModel", "pass", "()V"⟩, 44) := ⟨⟨by decide +kernel, by decide +kernel⟩, List.mem_of_getElem? (i := 746) (by decide +kernel), List.mem_of_getElem? (i := 997) (by decide +kernel), List.mem_of_getElem? (i := 998) (by decide +kernel)⟩
theorem lw_p65 : lw_okq (⟨"SleepMintModel", "doHour", "(IIZ)V"⟩, 44) := ⟨⟨by decide +kernel, by decide +kernel⟩, List.mem_of_getElem? (i := 746) (by decide +kernel), List.mem_of_getElem? (i := 1001) (by decide +kernel), List.mem_of_getElem? (i := 1002) (by decide +kernel)⟩
theorem lw_p66 : lw_okq (⟨"SleepMintModel", "minted", "(I)I"⟩, 44) := ⟨⟨by decide +kernel, by decide +kernel⟩, List.mem_of_getElem? (i := 746) (by decide +kernel), List.mem_of_getElem? (i := 1005) (by decide +kernel), List.mem_of_getElem? (i := 1006) (by decide +kernel)⟩
theorem lw_p67 : lw_okq (⟨"SleepMintModel", "draw", "(I)I"⟩, 44) := ⟨⟨by decide +kernel, by decide +kernel⟩, List.mem_of_getElem? (i := 746) (by decide +kernel), List.mem_of_getElem? (i := 1016) (by decide +kernel), List.mem_of_getElem? (i := 1017) (by decide +kernel)⟩
theorem lw_p68 : lw_okq (⟨"SleepMintModel", "save", "()V"⟩, 44) := ⟨⟨by decide +kernel, by decide +kernel⟩, List.mem_of_getElem? (i := 746) (by decide +kernel), List.mem_of_getElem? (i := 1038) (by decide +kernel), List.mem_of_getElem? (i := 1039) (by decide +kernel)⟩
theorem lw_p69 : lw_okq (⟨"SleepMintModel", "putBack", "()V"⟩, 44) := ⟨⟨by decide +kernel, by decide +kernel⟩, List.mem_of_getElem? (i := 746) (by decide +kernel), List.mem_of_getElem? (i := 1042) (by decide +kernel), List.mem_of_getElem? (i := 1043) (by decide +kernel)⟩
theorem lw_p70 : lw_okq (⟨"SleepMintModel", "mostFrom", "(IIII)I"⟩, 44) := ⟨⟨by decide +kernel, by decide +kernel⟩, List.mem_of_getElem? (i := 746) (by decide +kernel), List.mem_of_getElem? (i := 1055) (by decide +kernel), List.mem_of_getElem? (i := 1056) (by decide +kernel)⟩
theorem lw_p71 : lw_okq (⟨"SleepMintModel", "liveOn", "(I)V"⟩, 44) := ⟨⟨by decide +kernel, by decide +kernel⟩, List.mem_of_getElem? (i := 746) (by decide +kernel), List.mem_of_getElem? (i := 1059) (by decide +kernel), List.mem_of_getElem? (i := 1060) (by decide +kernel)⟩
theorem lw_p72 : lw_okq (⟨"SleepMintModel", "purseBy", "(IIII)I"⟩, 44) := ⟨⟨by decide +kernel, by decide +kernel⟩, List.mem_of_getElem? (i := 746) (by decide +kernel), List.mem_of_getElem? (i := 1069) (by decide +kernel), List.mem_of_getElem? (i := 1070) (by decide +kernel)⟩
theorem lw_p73 : lw_okq (⟨"SleepMintModel", "behindDebts", "(II)I"⟩, 44) := ⟨⟨by decide +kernel, by decide +kernel⟩, List.mem_of_getElem? (i := 746) (by decide +kernel), List.mem_of_getElem? (i := 1073) (by decide +kernel), List.mem_of_getElem? (i := 1074) (by decide +kernel)⟩
theorem lw_p74 : lw_okq (⟨"SleepMintModel", "lived", "(IIIII)I"⟩, 44) := ⟨⟨by decide +kernel, by decide +kernel⟩, List.mem_of_getElem? (i := 746) (by decide +kernel), List.mem_of_getElem? (i := 1077) (by decide +kernel), List.mem_of_getElem? (i := 1078) (by decide +kernel)⟩
theorem lw_p75 : lw_okq (⟨"SleepMintModel", "canLie", "(II)Z"⟩, 44) := ⟨⟨by decide +kernel, by decide +kernel⟩, List.mem_of_getElem? (i := 746) (by decide +kernel), List.mem_of_getElem? (i := 1086) (by decide +kernel), List.mem_of_getElem? (i := 1087) (by decide +kernel)⟩
theorem lw_p76 : lw_okq (⟨"SleepMintModel", "findFewest", "(I)V"⟩, 44) := ⟨⟨by decide +kernel, by decide +kernel⟩, List.mem_of_getElem? (i := 746) (by decide +kernel), List.mem_of_getElem? (i := 1095) (by decide +kernel), List.mem_of_getElem? (i := 1096) (by decide +kernel)⟩
theorem lw_p77 : lw_okq (⟨"SleepMintModel", "isCoin", "(I)Z"⟩, 44) := ⟨⟨by decide +kernel, by decide +kernel⟩, List.mem_of_getElem? (i := 746) (by decide +kernel), List.mem_of_getElem? (i := 1099) (by decide +kernel), List.mem_of_getElem? (i := 1100) (by decide +kernel)⟩
def lw_privs_5 : List (MethodName × Nat) := [(⟨"SleepMintModel", "pass", "()V"⟩, 44), (⟨"SleepMintModel", "doHour", "(IIZ)V"⟩, 44), (⟨"SleepMintModel", "minted", "(I)I"⟩, 44), (⟨"SleepMintModel", "draw", "(I)I"⟩, 44), (⟨"SleepMintModel", "save", "()V"⟩, 44), (⟨"SleepMintModel", "putBack", "()V"⟩, 44), (⟨"SleepMintModel", "mostFrom", "(IIII)I"⟩, 44), (⟨"SleepMintModel", "liveOn", "(I)V"⟩, 44), (⟨"SleepMintModel", "purseBy", "(IIII)I"⟩, 44), (⟨"SleepMintModel", "behindDebts", "(II)I"⟩, 44), (⟨"SleepMintModel", "lived", "(IIIII)I"⟩, 44), (⟨"SleepMintModel", "canLie", "(II)Z"⟩, 44), (⟨"SleepMintModel", "findFewest", "(I)V"⟩, 44), (⟨"SleepMintModel", "isCoin", "(I)Z"⟩, 44)]
theorem lw_r5 : ∀ q ∈ lw_privs_5, lw_okq q := List.forall_mem_cons.mpr ⟨lw_p64, List.forall_mem_cons.mpr ⟨lw_p65, List.forall_mem_cons.mpr ⟨lw_p66, List.forall_mem_cons.mpr ⟨lw_p67, List.forall_mem_cons.mpr ⟨lw_p68, List.forall_mem_cons.mpr ⟨lw_p69, List.forall_mem_cons.mpr ⟨lw_p70, List.forall_mem_cons.mpr ⟨lw_p71, List.forall_mem_cons.mpr ⟨lw_p72, List.forall_mem_cons.mpr ⟨lw_p73, List.forall_mem_cons.mpr ⟨lw_p74, List.forall_mem_cons.mpr ⟨lw_p75, List.forall_mem_cons.mpr ⟨lw_p76, List.forall_mem_cons.mpr ⟨lw_p77, fun _ h => absurd h List.not_mem_nil⟩⟩⟩⟩⟩⟩⟩⟩⟩⟩⟩⟩⟩⟩
def lw_privs : List (MethodName × Nat) := lw_privs_1 ++ (lw_privs_2 ++ (lw_privs_3 ++ (lw_privs_4 ++ (lw_privs_5))))
def lw_tbl : List Cond := k2_sels lw_privs ++ tables_1
theorem lw_privs_ok : ∀ q ∈ lw_privs, lw_okq q := by
  show ∀ q ∈ lw_privs_1 ++ (lw_privs_2 ++ (lw_privs_3 ++ (lw_privs_4 ++ (lw_privs_5)))), lw_okq q
  exact List.forall_mem_append.mpr ⟨lw_r1, List.forall_mem_append.mpr ⟨lw_r2, List.forall_mem_append.mpr ⟨lw_r3, List.forall_mem_append.mpr ⟨lw_r4, lw_r5⟩⟩⟩⟩

def RX0 : String := "SleepMint$CoinTable"
def TX0 : u_T := fun k => match k with
  | 0 => ("SleepMint$CoinTable", "isStruck", "[Z", true)
  | 1 => ("SleepMint$CoinTable", "fewest", "[I", true)
  | 2 => ("SleepMint$CoinTable", "withOneMore", "[I", true)
  | 3 => ("SleepMint$CoinTable", "isPrepared", "Z", false)
  | 4 => ("SleepMint$CoinTable", "isStrikeFound", "Z", false)
  | 5 => ("SleepMint$CoinTable", "strikeWorth", "I", false)
  | _ => ("SleepMint$CoinTable", "strikeTotal", "I", false)
def tyX0 : Nat → FieldType := fun k => match k with
  | 0 => .array .boolean
  | 1 => .array .int
  | 2 => .array .int
  | 3 => .boolean
  | 4 => .boolean
  | 5 => .int
  | _ => .int
abbrev wsX00 : List Cond := u_ws RX0 TX0 7
theorem nmX0 : ∀ a, a < 7 → ∀ b, b < 7 → a ≠ b → (TX0 a).2.1 ≠ (TX0 b).2.1 := by decide +kernel
theorem tyX0_ok : ∀ k, k < 7 → parseFieldDescriptor (TX0 k).2.2.1 = some (tyX0 k) := by decide +kernel
abbrev cX0_init : ByteArray := prog_2_method_1_code
def yX0_init : MethodName := ⟨RX0, "<init>", "()V"⟩
abbrev cX0_forget : ByteArray := prog_2_method_2_code
def yX0_forget : MethodName := ⟨RX0, "forget", "()V"⟩
abbrev cX0_prepare : ByteArray := prog_2_method_3_code
def yX0_prepare : MethodName := ⟨RX0, "prepare", "(LSleepMint$Town;)V"⟩
abbrev cX0_addCoin : ByteArray := prog_2_method_4_code
def yX0_addCoin : MethodName := ⟨RX0, "addCoin", "(I)V"⟩
abbrev cX0_countOf : ByteArray := prog_2_method_5_code
def yX0_countOf : MethodName := ⟨RX0, "countOf", "(II)I"⟩
abbrev cX0_countTaken : ByteArray := prog_2_method_6_code
def yX0_countTaken : MethodName := ⟨RX0, "countTaken", "(II)I"⟩
abbrev cX0_findStrike : ByteArray := prog_2_method_7_code
def yX0_findStrike : MethodName := ⟨RX0, "findStrike", "()V"⟩
abbrev cX0_totalWith : ByteArray := prog_2_method_8_code
def yX0_totalWith : MethodName := ⟨RX0, "totalWith", "(I)I"⟩
def RX1 : String := "SleepMint$LifePlan"
def TX1 : u_T := fun k => match k with
  | 0 => ("SleepMint$LifePlan", "purses", "[I", false)
  | 1 => ("SleepMint$LifePlan", "earnings", "[I", false)
  | 2 => ("SleepMint$LifePlan", "earningsKnown", "I", false)
  | 3 => ("SleepMint$LifePlan", "owed", "[I", true)
  | 4 => ("SleepMint$LifePlan", "acts", "[I", true)
  | 5 => ("SleepMint$LifePlan", "most", "I", false)
  | 6 => ("SleepMint$LifePlan", "person", "I", false)
  | 7 => ("SleepMint$LifePlan", "length", "I", false)
  | 8 => ("SleepMint$LifePlan", "hours", "I", false)
  | 9 => ("SleepMint$LifePlan", "tired", "I", false)
  | 10 => ("SleepMint$LifePlan", "sleep", "I", false)
  | 11 => ("SleepMint$LifePlan", "purse", "I", false)
  | 12 => ("SleepMint$LifePlan", "deep", "I", false)
  | 13 => ("SleepMint$LifePlan", "gain", "I", false)
  | 14 => ("SleepMint$LifePlan", "width", "I", false)
  | _ => ("SleepMint$LifePlan", "hoursWithDebts", "I", false)
def tyX1 : Nat → FieldType := fun k => match k with
  | 0 => .array .int
  | 1 => .array .int
  | 2 => .int
  | 3 => .array .int
  | 4 => .array .int
  | 5 => .int
  | 6 => .int
  | 7 => .int
  | 8 => .int
  | 9 => .int
  | 10 => .int
  | 11 => .int
  | 12 => .int
  | 13 => .int
  | 14 => .int
  | _ => .int
abbrev wsX10 : List Cond := u_ws RX1 TX1 16
theorem nmX1 : ∀ a, a < 16 → ∀ b, b < 16 → a ≠ b → (TX1 a).2.1 ≠ (TX1 b).2.1 := by decide +kernel
theorem tyX1_ok : ∀ k, k < 16 → parseFieldDescriptor (TX1 k).2.2.1 = some (tyX1 k) := by decide +kernel
abbrev cX1_init : ByteArray := prog_3_method_1_code
def yX1_init : MethodName := ⟨RX1, "<init>", "()V"⟩
abbrev cX1_forget : ByteArray := prog_3_method_2_code
def yX1_forget : MethodName := ⟨RX1, "forget", "()V"⟩
abbrev cX1_make : ByteArray := prog_3_method_3_code
def yX1_make : MethodName := ⟨RX1, "make", "(LSleepMint$Town;LSleepMint$Moment;II)V"⟩
abbrev cX1_isMade : ByteArray := prog_3_method_4_code
def yX1_isMade : MethodName := ⟨RX1, "isMade", "(LSleepMint$Moment;II)Z"⟩
abbrev cX1_prepareTables : ByteArray := prog_3_method_5_code
def yX1_prepareTables : MethodName := ⟨RX1, "prepareTables", "(LSleepMint$Town;)V"⟩
abbrev cX1_clearLastEarnings : ByteArray := prog_3_method_6_code
def yX1_clearLastEarnings : MethodName := ⟨RX1, "clearLastEarnings", "()V"⟩
abbrev cX1_learnEarnings : ByteArray := prog_3_method_7_code
def yX1_learnEarnings : MethodName := ⟨RX1, "learnEarnings", "(I)V"⟩
abbrev cX1_countOwed : ByteArray := prog_3_method_8_code
def yX1_countOwed : MethodName := ⟨RX1, "countOwed", "(LSleepMint$Town;)V"⟩
abbrev cX1_place : ByteArray := prog_3_method_9_code
def yX1_place : MethodName := ⟨RX1, "place", "(III)I"⟩
abbrev cX1_placeAsleep : ByteArray := prog_3_method_10_code
def yX1_placeAsleep : MethodName := ⟨RX1, "placeAsleep", "(III)I"⟩
abbrev cX1_placeAtWork : ByteArray := prog_3_method_11_code
def yX1_placeAtWork : MethodName := ⟨RX1, "placeAtWork", "(II)I"⟩
abbrev cX1_easedBySleep : ByteArray := prog_3_method_12_code
def yX1_easedBySleep : MethodName := ⟨RX1, "easedBySleep", "(I)I"⟩
abbrev cX1_tiredByWork : ByteArray := prog_3_method_13_code
def yX1_tiredByWork : MethodName := ⟨RX1, "tiredByWork", "(I)I"⟩
abbrev cX1_longerSleep : ByteArray := prog_3_method_14_code
def yX1_longerSleep : MethodName := ⟨RX1, "longerSleep", "(I)I"⟩
abbrev cX1_earned : ByteArray := prog_3_method_15_code
def yX1_earned : MethodName := ⟨RX1, "earned", "(I)I"⟩
abbrev cX1_purseAsleep : ByteArray := prog_3_method_16_code
def yX1_purseAsleep : MethodName := ⟨RX1, "purseAsleep", "(III)I"⟩
abbrev cX1_leastTired : ByteArray := prog_3_method_17_code
def yX1_leastTired : MethodName := ⟨RX1, "leastTired", "(I)I"⟩
abbrev cX1_mostTired : ByteArray := prog_3_method_18_code
def yX1_mostTired : MethodName := ⟨RX1, "mostTired", "(I)I"⟩
abbrev cX1_spread : ByteArray := prog_3_method_19_code
def yX1_spread : MethodName := ⟨RX1, "spread", "()V"⟩
abbrev cX1_clearHour : ByteArray := prog_3_method_20_code
def yX1_clearHour : MethodName := ⟨RX1, "clearHour", "(I)V"⟩
abbrev cX1_spreadHour : ByteArray := prog_3_method_21_code
def yX1_spreadHour : MethodName := ⟨RX1, "spreadHour", "(II)V"⟩
abbrev cX1_offer : ByteArray := prog_3_method_22_code
def yX1_offer : MethodName := ⟨RX1, "offer", "(II)V"⟩
abbrev cX1_mostAtEnd : ByteArray := prog_3_method_23_code
def yX1_mostAtEnd : MethodName := ⟨RX1, "mostAtEnd", "()I"⟩
abbrev cX1_turnToNeeds : ByteArray := prog_3_method_24_code
def yX1_turnToNeeds : MethodName := ⟨RX1, "turnToNeeds", "()V"⟩
abbrev cX1_turnHourToNeeds : ByteArray := prog_3_method_25_code
def yX1_turnHourToNeeds : MethodName := ⟨RX1, "turnHourToNeeds", "(II)V"⟩
abbrev cX1_needOf : ByteArray := prog_3_method_26_code
def yX1_needOf : MethodName := ⟨RX1, "needOf", "(III)I"⟩
abbrev cX1_needAt : ByteArray := prog_3_method_27_code
def yX1_needAt : MethodName := ⟨RX1, "needAt", "(III)I"⟩
abbrev cX1_needBefore : ByteArray := prog_3_method_28_code
def yX1_needBefore : MethodName := ⟨RX1, "needBefore", "(III)I"⟩
abbrev cX1_walk : ByteArray := prog_3_method_29_code
def yX1_walk : MethodName := ⟨RX1, "walk", "()V"⟩
def RX2 : String := "SleepMint$Moment"
def TX2 : u_T := fun k => match k with
  | 0 => ("SleepMint$Moment", "tired", "[I", true)
  | 1 => ("SleepMint$Moment", "sleep", "[I", true)
  | 2 => ("SleepMint$Moment", "purse", "[I", true)
  | 3 => ("SleepMint$Moment", "rows", "[I", true)
  | 4 => ("SleepMint$Moment", "paid", "I", false)
  | 5 => ("SleepMint$Moment", "missed", "I", false)
  | 6 => ("SleepMint$Moment", "hours", "I", false)
  | _ => ("SleepMint$Moment", "seedValue", "I", false)
def tyX2 : Nat → FieldType := fun k => match k with
  | 0 => .array .int
  | 1 => .array .int
  | 2 => .array .int
  | 3 => .array .int
  | 4 => .int
  | 5 => .int
  | 6 => .int
  | _ => .int
abbrev wsX20 : List Cond := u_ws RX2 TX2 8
theorem nmX2 : ∀ a, a < 8 → ∀ b, b < 8 → a ≠ b → (TX2 a).2.1 ≠ (TX2 b).2.1 := by decide +kernel
theorem tyX2_ok : ∀ k, k < 8 → parseFieldDescriptor (TX2 k).2.2.1 = some (tyX2 k) := by decide +kernel
abbrev cX2_init : ByteArray := prog_4_method_1_code
def yX2_init : MethodName := ⟨RX2, "<init>", "()V"⟩
abbrev cX2_copyFrom : ByteArray := prog_4_method_2_code
def yX2_copyFrom : MethodName := ⟨RX2, "copyFrom", "(LSleepMint$Moment;)V"⟩
abbrev cX2_sleepers : ByteArray := prog_4_method_3_code
def yX2_sleepers : MethodName := ⟨RX2, "sleepers", "(I)I"⟩
abbrev cX2_passHours : ByteArray := prog_4_method_4_code
def yX2_passHours : MethodName := ⟨RX2, "passHours", "(LSleepMint$Town;I)V"⟩
abbrev cX2_passHour : ByteArray := prog_4_method_5_code
def yX2_passHour : MethodName := ⟨RX2, "passHour", "(LSleepMint$Town;)V"⟩
abbrev cX2_lie : ByteArray := prog_4_method_6_code
def yX2_lie : MethodName := ⟨RX2, "lie", "(ILSleepMint$Town;)V"⟩
abbrev cX2_tire : ByteArray := prog_4_method_7_code
def yX2_tire : MethodName := ⟨RX2, "tire", "(II)V"⟩
abbrev cX2_callDebts : ByteArray := prog_4_method_8_code
def yX2_callDebts : MethodName := ⟨RX2, "callDebts", "(LSleepMint$Town;)V"⟩
abbrev cX2_wakeByDraw : ByteArray := prog_4_method_9_code
def yX2_wakeByDraw : MethodName := ⟨RX2, "wakeByDraw", "(I)V"⟩
abbrev cX2_draw : ByteArray := prog_4_method_10_code
def yX2_draw : MethodName := ⟨RX2, "draw", "(I)I"⟩
def RX3 : String := "SleepMint$Reader"
def TX3 : u_T := fun k => match k with
  | 0 => ("SleepMint$Reader", "letters", "[I", true)
  | 1 => ("SleepMint$Reader", "at", "I", false)
  | 2 => ("SleepMint$Reader", "numberAt", "I", false)
  | 3 => ("SleepMint$Reader", "into", "LSleepMint$Town;", false)
  | 4 => ("SleepMint$Reader", "size", "I", false)
  | 5 => ("SleepMint$Reader", "faultKind", "I", false)
  | _ => ("SleepMint$Reader", "faultPlace", "I", false)
def tyX3 : Nat → FieldType := fun k => match k with
  | 0 => .array .int
  | 1 => .int
  | 2 => .int
  | 3 => .object "SleepMint$Town"
  | 4 => .int
  | 5 => .int
  | _ => .int
abbrev wsX30 : List Cond := u_ws RX3 TX3 7
theorem nmX3 : ∀ a, a < 7 → ∀ b, b < 7 → a ≠ b → (TX3 a).2.1 ≠ (TX3 b).2.1 := by decide +kernel
theorem tyX3_ok : ∀ k, k < 7 → parseFieldDescriptor (TX3 k).2.2.1 = some (tyX3 k) := by decide +kernel
abbrev cX3_init : ByteArray := prog_5_method_1_code
def yX3_init : MethodName := ⟨RX3, "<init>", "()V"⟩
abbrev cX3_add : ByteArray := prog_5_method_2_code
def yX3_add : MethodName := ⟨RX3, "add", "(I)I"⟩
abbrev cX3_read : ByteArray := prog_5_method_3_code
def yX3_read : MethodName := ⟨RX3, "read", "()Z"⟩
abbrev cX3_isGood : ByteArray := prog_5_method_4_code
def yX3_isGood : MethodName := ⟨RX3, "isGood", "()Z"⟩
abbrev cX3_fail : ByteArray := prog_5_method_5_code
def yX3_fail : MethodName := ⟨RX3, "fail", "(II)V"⟩
abbrev cX3_peek : ByteArray := prog_5_method_6_code
def yX3_peek : MethodName := ⟨RX3, "peek", "()I"⟩
abbrev cX3_readClause : ByteArray := prog_5_method_7_code
def yX3_readClause : MethodName := ⟨RX3, "readClause", "()V"⟩
abbrev cX3_expect : ByteArray := prog_5_method_8_code
def yX3_expect : MethodName := ⟨RX3, "expect", "(I)V"⟩
abbrev cX3_stepOverWord : ByteArray := prog_5_method_9_code
def yX3_stepOverWord : MethodName := ⟨RX3, "stepOverWord", "(Z)V"⟩
abbrev cX3_readBeds : ByteArray := prog_5_method_10_code
def yX3_readBeds : MethodName := ⟨RX3, "readBeds", "()V"⟩
abbrev cX3_readPerson : ByteArray := prog_5_method_11_code
def yX3_readPerson : MethodName := ⟨RX3, "readPerson", "()V"⟩
abbrev cX3_readDoing : ByteArray := prog_5_method_12_code
def yX3_readDoing : MethodName := ⟨RX3, "readDoing", "()I"⟩
abbrev cX3_readCoin : ByteArray := prog_5_method_13_code
def yX3_readCoin : MethodName := ⟨RX3, "readCoin", "()V"⟩
abbrev cX3_readDebt : ByteArray := prog_5_method_14_code
def yX3_readDebt : MethodName := ⟨RX3, "readDebt", "()V"⟩
abbrev cX3_readYawn : ByteArray := prog_5_method_15_code
def yX3_readYawn : MethodName := ⟨RX3, "readYawn", "()V"⟩
abbrev cX3_readNumber : ByteArray := prog_5_method_16_code
def yX3_readNumber : MethodName := ⟨RX3, "readNumber", "(II)I"⟩
abbrev cX3_isFigure : ByteArray := prog_5_method_17_code
def yX3_isFigure : MethodName := ⟨RX3, "isFigure", "(I)Z"⟩
def RX4 : String := "SleepMint$Town"
def TX4 : u_T := fun k => match k with
  | 0 => ("SleepMint$Town", "beds", "I", false)
  | 1 => ("SleepMint$Town", "deep", "I", false)
  | 2 => ("SleepMint$Town", "gain", "I", false)
  | 3 => ("SleepMint$Town", "people", "I", false)
  | 4 => ("SleepMint$Town", "coinCount", "I", false)
  | 5 => ("SleepMint$Town", "debtCount", "I", false)
  | 6 => ("SleepMint$Town", "yawnsTold", "I", false)
  | 7 => ("SleepMint$Town", "worth", "[I", true)
  | 8 => ("SleepMint$Town", "debtor", "[I", true)
  | 9 => ("SleepMint$Town", "debtHour", "[I", true)
  | 10 => ("SleepMint$Town", "debtValue", "[I", true)
  | 11 => ("SleepMint$Town", "yawn", "[I", true)
  | _ => ("SleepMint$Town", "start", "LSleepMint$Moment;", true)
def tyX4 : Nat → FieldType := fun k => match k with
  | 0 => .int
  | 1 => .int
  | 2 => .int
  | 3 => .int
  | 4 => .int
  | 5 => .int
  | 6 => .int
  | 7 => .array .int
  | 8 => .array .int
  | 9 => .array .int
  | 10 => .array .int
  | 11 => .array .int
  | _ => .object "SleepMint$Moment"
abbrev wsX40 : List Cond := u_ws RX4 TX4 13
theorem nmX4 : ∀ a, a < 13 → ∀ b, b < 13 → a ≠ b → (TX4 a).2.1 ≠ (TX4 b).2.1 := by decide +kernel
theorem tyX4_ok : ∀ k, k < 13 → parseFieldDescriptor (TX4 k).2.2.1 = some (tyX4 k) := by decide +kernel
abbrev cX4_init : ByteArray := prog_6_method_1_code
def yX4_init : MethodName := ⟨RX4, "<init>", "()V"⟩
abbrev cX4_clear : ByteArray := prog_6_method_2_code
def yX4_clear : MethodName := ⟨RX4, "clear", "()V"⟩
abbrev cX4_hasCoin : ByteArray := prog_6_method_3_code
def yX4_hasCoin : MethodName := ⟨RX4, "hasCoin", "(I)Z"⟩
abbrev cX4_yawnsOf : ByteArray := prog_6_method_4_code
def yX4_yawnsOf : MethodName := ⟨RX4, "yawnsOf", "(I)I"⟩
def RX5 : String := "SleepMint"
def TX5 : u_T := fun k => match k with
  | 0 => ("SleepMint", "town", "LSleepMint$Town;", false)
  | 1 => ("SleepMint", "reader", "LSleepMint$Reader;", true)
  | 2 => ("SleepMint", "now", "LSleepMint$Moment;", true)
  | 3 => ("SleepMint", "trial", "LSleepMint$Moment;", true)
  | 4 => ("SleepMint", "imageZero", "LSleepMint$Moment;", true)
  | 5 => ("SleepMint", "imageOne", "LSleepMint$Moment;", true)
  | 6 => ("SleepMint", "kept", "I", false)
  | 7 => ("SleepMint", "plan", "LSleepMint$LifePlan;", true)
  | 8 => ("SleepMint", "table", "LSleepMint$CoinTable;", true)
  | 9 => ("SleepMint", "entryOf", "[I", true)
  | 10 => ("SleepMint", "entryPurse", "[I", true)
  | _ => ("SleepMint", "entries", "I", false)
def tyX5 : Nat → FieldType := fun k => match k with
  | 0 => .object "SleepMint$Town"
  | 1 => .object "SleepMint$Reader"
  | 2 => .object "SleepMint$Moment"
  | 3 => .object "SleepMint$Moment"
  | 4 => .object "SleepMint$Moment"
  | 5 => .object "SleepMint$Moment"
  | 6 => .int
  | 7 => .object "SleepMint$LifePlan"
  | 8 => .object "SleepMint$CoinTable"
  | 9 => .array .int
  | 10 => .array .int
  | _ => .int
abbrev wsX50 : List Cond := u_ws RX5 TX5 12
theorem nmX5 : ∀ a, a < 12 → ∀ b, b < 12 → a ≠ b → (TX5 a).2.1 ≠ (TX5 b).2.1 := by decide +kernel
theorem tyX5_ok : ∀ k, k < 12 → parseFieldDescriptor (TX5 k).2.2.1 = some (tyX5 k) := by decide +kernel
abbrev cX5_init : ByteArray := prog_1_method_1_code
def yX5_init : MethodName := ⟨RX5, "<init>", "()V"⟩
abbrev cX5_feed : ByteArray := prog_1_method_2_code
def yX5_feed : MethodName := ⟨RX5, "feed", "(I)I"⟩
abbrev cX5_capital : ByteArray := prog_1_method_3_code
def yX5_capital : MethodName := ⟨RX5, "capital", "()I"⟩
abbrev cX5_fault : ByteArray := prog_1_method_4_code
def yX5_fault : MethodName := ⟨RX5, "fault", "()I"⟩
abbrev cX5_told : ByteArray := prog_1_method_5_code
def yX5_told : MethodName := ⟨RX5, "told", "(I)I"⟩
abbrev cX5_person : ByteArray := prog_1_method_6_code
def yX5_person : MethodName := ⟨RX5, "person", "(II)I"⟩
abbrev cX5_row : ByteArray := prog_1_method_7_code
def yX5_row : MethodName := ⟨RX5, "row", "(II)I"⟩
abbrev cX5_coin : ByteArray := prog_1_method_8_code
def yX5_coin : MethodName := ⟨RX5, "coin", "(I)I"⟩
abbrev cX5_debt : ByteArray := prog_1_method_9_code
def yX5_debt : MethodName := ⟨RX5, "debt", "(II)I"⟩
abbrev cX5_debtState : ByteArray := prog_1_method_10_code
def yX5_debtState : MethodName := ⟨RX5, "debtState", "(I)I"⟩
abbrev cX5_hour : ByteArray := prog_1_method_11_code
def yX5_hour : MethodName := ⟨RX5, "hour", "(I)I"⟩
abbrev cX5_drift : ByteArray := prog_1_method_12_code
def yX5_drift : MethodName := ⟨RX5, "drift", "(I)I"⟩
abbrev cX5_refusalOfHours : ByteArray := prog_1_method_13_code
def yX5_refusalOfHours : MethodName := ⟨RX5, "refusalOfHours", "(I)I"⟩
abbrev cX5_give : ByteArray := prog_1_method_14_code
def yX5_give : MethodName := ⟨RX5, "give", "(III)I"⟩
abbrev cX5_change : ByteArray := prog_1_method_15_code
def yX5_change : MethodName := ⟨RX5, "change", "(III)I"⟩
abbrev cX5_firstShort : ByteArray := prog_1_method_16_code
def yX5_firstShort : MethodName := ⟨RX5, "firstShort", "(I)I"⟩
abbrev cX5_richest : ByteArray := prog_1_method_17_code
def yX5_richest : MethodName := ⟨RX5, "richest", "(II)I"⟩
abbrev cX5_life : ByteArray := prog_1_method_18_code
def yX5_life : MethodName := ⟨RX5, "life", "(III)I"⟩
abbrev cX5_shift : ByteArray := prog_1_method_19_code
def yX5_shift : MethodName := ⟨RX5, "shift", "(II)I"⟩
abbrev cX5_coins : ByteArray := prog_1_method_20_code
def yX5_coins : MethodName := ⟨RX5, "coins", "(II)I"⟩
abbrev cX5_strike : ByteArray := prog_1_method_21_code
def yX5_strike : MethodName := ⟨RX5, "strike", "(I)I"⟩
abbrev cX5_isFalse : ByteArray := prog_1_method_22_code
def yX5_isFalse : MethodName := ⟨RX5, "isFalse", "(IIIII)I"⟩
abbrev cX5_partsOfBillion : ByteArray := prog_1_method_23_code
def yX5_partsOfBillion : MethodName := ⟨RX5, "partsOfBillion", "(IIII)J"⟩
abbrev cX5_prices : ByteArray := prog_1_method_24_code
def yX5_prices : MethodName := ⟨RX5, "prices", "(IIII)I"⟩
abbrev cX5_robbed : ByteArray := prog_1_method_25_code
def yX5_robbed : MethodName := ⟨RX5, "robbed", "(III)I"⟩
abbrev cX5_run : ByteArray := prog_1_method_26_code
def yX5_run : MethodName := ⟨RX5, "run", "(II)I"⟩
abbrev cX5_nextToRun : ByteArray := prog_1_method_27_code
def yX5_nextToRun : MethodName := ⟨RX5, "nextToRun", "(II)I"⟩
abbrev cX5_write : ByteArray := prog_1_method_28_code
def yX5_write : MethodName := ⟨RX5, "write", "(II)I"⟩
abbrev cX5_tear : ByteArray := prog_1_method_29_code
def yX5_tear : MethodName := ⟨RX5, "tear", "()I"⟩
abbrev cX5_judge : ByteArray := prog_1_method_30_code
def yX5_judge : MethodName := ⟨RX5, "judge", "()I"⟩
abbrev cX5_seed : ByteArray := prog_1_method_31_code
def yX5_seed : MethodName := ⟨RX5, "seed", "(I)I"⟩
abbrev cX5_keep : ByteArray := prog_1_method_32_code
def yX5_keep : MethodName := ⟨RX5, "keep", "(I)I"⟩
abbrev cX5_goBack : ByteArray := prog_1_method_33_code
def yX5_goBack : MethodName := ⟨RX5, "goBack", "(I)I"⟩
abbrev cX5_imageOf : ByteArray := prog_1_method_34_code
def yX5_imageOf : MethodName := ⟨RX5, "imageOf", "(I)LSleepMint$Moment;"⟩
abbrev cX5_isPerson : ByteArray := prog_1_method_35_code
def yX5_isPerson : MethodName := ⟨RX5, "isPerson", "(I)Z"⟩
abbrev cX5_isWithin : ByteArray := prog_1_method_36_code
def yX5_isWithin : MethodName := ⟨RX5, "isWithin", "(III)Z"⟩
abbrev cX5_isIn : ByteArray := prog_1_method_37_code
def yX5_isIn : MethodName := ⟨RX5, "isIn", "(II)Z"⟩
abbrev cX5_leastOf : ByteArray := prog_1_method_38_code
def yX5_leastOf : MethodName := ⟨RX5, "leastOf", "(I)I"⟩
def RX6 : String := "SleepMintModel"
def TX6 : u_T := fun k => match k with
  | 0 => ("SleepMintModel", "beds", "I", false)
  | 1 => ("SleepMintModel", "deep", "I", false)
  | 2 => ("SleepMintModel", "gets", "I", false)
  | 3 => ("SleepMintModel", "people", "I", false)
  | 4 => ("SleepMintModel", "yawns", "[I", true)
  | 5 => ("SleepMintModel", "coins", "I", false)
  | 6 => ("SleepMintModel", "coin", "[I", true)
  | 7 => ("SleepMintModel", "debts", "I", false)
  | 8 => ("SleepMintModel", "debtWho", "[I", true)
  | 9 => ("SleepMintModel", "debtHour", "[I", true)
  | 10 => ("SleepMintModel", "debtMuch", "[I", true)
  | 11 => ("SleepMintModel", "now", "[I", true)
  | 12 => ("SleepMintModel", "seed", "I", false)
  | 13 => ("SleepMintModel", "text", "[I", true)
  | 14 => ("SleepMintModel", "texted", "I", false)
  | 15 => ("SleepMintModel", "faultPlace", "I", false)
  | 16 => ("SleepMintModel", "at0", "I", false)
  | 17 => ("SleepMintModel", "number", "I", false)
  | 18 => ("SleepMintModel", "numberAt", "I", false)
  | 19 => ("SleepMintModel", "readMint", "[I", true)
  | 20 => ("SleepMintModel", "readPeople", "I", false)
  | 21 => ("SleepMintModel", "readTired", "[I", true)
  | 22 => ("SleepMintModel", "readPurse", "[I", true)
  | 23 => ("SleepMintModel", "readRows", "[I", true)
  | 24 => ("SleepMintModel", "readYawns", "[I", true)
  | 25 => ("SleepMintModel", "toldYawns", "I", false)
  | 26 => ("SleepMintModel", "readCoins", "I", false)
  | 27 => ("SleepMintModel", "readCoin", "[I", true)
  | 28 => ("SleepMintModel", "readDebts", "I", false)
  | 29 => ("SleepMintModel", "readWho", "[I", true)
  | 30 => ("SleepMintModel", "readHour", "[I", true)
  | 31 => ("SleepMintModel", "readMuch", "[I", true)
  | 32 => ("SleepMintModel", "was", "[I", true)
  | 33 => ("SleepMintModel", "rich", "[I", true)
  | 34 => ("SleepMintModel", "richThen", "[I", true)
  | 35 => ("SleepMintModel", "owner", "I", false)
  | 36 => ("SleepMintModel", "lie", "[I", true)
  | 37 => ("SleepMintModel", "begins", "[I", true)
  | 38 => ("SleepMintModel", "fewest", "[I", true)
  | 39 => ("SleepMintModel", "booked", "I", false)
  | 40 => ("SleepMintModel", "bookWho", "[I", true)
  | 41 => ("SleepMintModel", "bookPurse", "[I", true)
  | 42 => ("SleepMintModel", "images", "[I", true)
  | _ => ("SleepMintModel", "isKept", "[Z", true)
def tyX6 : Nat → FieldType := fun k => match k with
  | 0 => .int
  | 1 => .int
  | 2 => .int
  | 3 => .int
  | 4 => .array .int
  | 5 => .int
  | 6 => .array .int
  | 7 => .int
  | 8 => .array .int
  | 9 => .array .int
  | 10 => .array .int
  | 11 => .array .int
  | 12 => .int
  | 13 => .array .int
  | 14 => .int
  | 15 => .int
  | 16 => .int
  | 17 => .int
  | 18 => .int
  | 19 => .array .int
  | 20 => .int
  | 21 => .array .int
  | 22 => .array .int
  | 23 => .array .int
  | 24 => .array .int
  | 25 => .int
  | 26 => .int
  | 27 => .array .int
  | 28 => .int
  | 29 => .array .int
  | 30 => .array .int
  | 31 => .array .int
  | 32 => .array .int
  | 33 => .array .int
  | 34 => .array .int
  | 35 => .int
  | 36 => .array .int
  | 37 => .array .int
  | 38 => .array .int
  | 39 => .int
  | 40 => .array .int
  | 41 => .array .int
  | 42 => .array .int
  | _ => .array .boolean
abbrev wsX60 : List Cond := u_ws RX6 TX6 44
theorem nmX6 : ∀ a, a < 44 → ∀ b, b < 44 → a ≠ b → (TX6 a).2.1 ≠ (TX6 b).2.1 := by decide +kernel
theorem tyX6_ok : ∀ k, k < 44 → parseFieldDescriptor (TX6 k).2.2.1 = some (tyX6 k) := by decide +kernel
abbrev cX6_init : ByteArray := prog_8_method_1_code
def yX6_init : MethodName := ⟨RX6, "<init>", "()V"⟩
abbrev cX6_in : ByteArray := prog_8_method_3_code
def yX6_in : MethodName := ⟨RX6, "in", "(JJJ)Z"⟩
abbrev cX6_has : ByteArray := prog_8_method_4_code
def yX6_has : MethodName := ⟨RX6, "has", "(II)Z"⟩
abbrev cX6_isPerson : ByteArray := prog_8_method_5_code
def yX6_isPerson : MethodName := ⟨RX6, "isPerson", "(I)Z"⟩
abbrev cX6_feed : ByteArray := prog_8_method_6_code
def yX6_feed : MethodName := ⟨RX6, "feed", "(I)I"⟩
abbrev cX6_here : ByteArray := prog_8_method_7_code
def yX6_here : MethodName := ⟨RX6, "here", "()I"⟩
abbrev cX6_fails : ByteArray := prog_8_method_8_code
def yX6_fails : MethodName := ⟨RX6, "fails", "(II)I"⟩
abbrev cX6_takeNumber : ByteArray := prog_8_method_9_code
def yX6_takeNumber : MethodName := ⟨RX6, "takeNumber", "(II)I"⟩
abbrev cX6_into : ByteArray := prog_8_method_10_code
def yX6_into : MethodName := ⟨RX6, "into", "([IIII)I"⟩
abbrev cX6_takeMint : ByteArray := prog_8_method_11_code
def yX6_takeMint : MethodName := ⟨RX6, "takeMint", "()I"⟩
abbrev cX6_takeRow : ByteArray := prog_8_method_12_code
def yX6_takeRow : MethodName := ⟨RX6, "takeRow", "(I)I"⟩
abbrev cX6_takePerson : ByteArray := prog_8_method_13_code
def yX6_takePerson : MethodName := ⟨RX6, "takePerson", "()I"⟩
abbrev cX6_takeCoin : ByteArray := prog_8_method_14_code
def yX6_takeCoin : MethodName := ⟨RX6, "takeCoin", "()I"⟩
abbrev cX6_takeDebt : ByteArray := prog_8_method_15_code
def yX6_takeDebt : MethodName := ⟨RX6, "takeDebt", "()I"⟩
abbrev cX6_takeYawn : ByteArray := prog_8_method_16_code
def yX6_takeYawn : MethodName := ⟨RX6, "takeYawn", "()I"⟩
abbrev cX6_takeClause : ByteArray := prog_8_method_17_code
def yX6_takeClause : MethodName := ⟨RX6, "takeClause", "()I"⟩
abbrev cX6_takeRead : ByteArray := prog_8_method_18_code
def yX6_takeRead : MethodName := ⟨RX6, "takeRead", "()V"⟩
abbrev cX6_capital : ByteArray := prog_8_method_19_code
def yX6_capital : MethodName := ⟨RX6, "capital", "()I"⟩
abbrev cX6_fault : ByteArray := prog_8_method_20_code
def yX6_fault : MethodName := ⟨RX6, "fault", "()I"⟩
abbrev cX6_asleep : ByteArray := prog_8_method_21_code
def yX6_asleep : MethodName := ⟨RX6, "asleep", "()I"⟩
abbrev cX6_told : ByteArray := prog_8_method_22_code
def yX6_told : MethodName := ⟨RX6, "told", "(I)I"⟩
abbrev cX6_person : ByteArray := prog_8_method_23_code
def yX6_person : MethodName := ⟨RX6, "person", "(II)I"⟩
abbrev cX6_row : ByteArray := prog_8_method_24_code
def yX6_row : MethodName := ⟨RX6, "row", "(II)I"⟩
abbrev cX6_coin : ByteArray := prog_8_method_25_code
def yX6_coin : MethodName := ⟨RX6, "coin", "(I)I"⟩
abbrev cX6_debt : ByteArray := prog_8_method_26_code
def yX6_debt : MethodName := ⟨RX6, "debt", "(II)I"⟩
abbrev cX6_atMost : ByteArray := prog_8_method_27_code
def yX6_atMost : MethodName := ⟨RX6, "atMost", "(II)I"⟩
abbrev cX6_minted : ByteArray := prog_8_method_28_code
def yX6_minted : MethodName := ⟨RX6, "minted", "(I)I"⟩
abbrev cX6_doHour : ByteArray := prog_8_method_29_code
def yX6_doHour : MethodName := ⟨RX6, "doHour", "(IIZ)V"⟩
abbrev cX6_pass : ByteArray := prog_8_method_30_code
def yX6_pass : MethodName := ⟨RX6, "pass", "()V"⟩
abbrev cX6_hoursRefused : ByteArray := prog_8_method_31_code
def yX6_hoursRefused : MethodName := ⟨RX6, "hoursRefused", "(I)I"⟩
abbrev cX6_hour : ByteArray := prog_8_method_32_code
def yX6_hour : MethodName := ⟨RX6, "hour", "(I)I"⟩
abbrev cX6_draw : ByteArray := prog_8_method_33_code
def yX6_draw : MethodName := ⟨RX6, "draw", "(I)I"⟩
abbrev cX6_drift : ByteArray := prog_8_method_34_code
def yX6_drift : MethodName := ⟨RX6, "drift", "(I)I"⟩
abbrev cX6_give : ByteArray := prog_8_method_35_code
def yX6_give : MethodName := ⟨RX6, "give", "(III)I"⟩
abbrev cX6_change : ByteArray := prog_8_method_36_code
def yX6_change : MethodName := ⟨RX6, "change", "(III)I"⟩
abbrev cX6_save : ByteArray := prog_8_method_37_code
def yX6_save : MethodName := ⟨RX6, "save", "()V"⟩
abbrev cX6_putBack : ByteArray := prog_8_method_38_code
def yX6_putBack : MethodName := ⟨RX6, "putBack", "()V"⟩
abbrev cX6_firstShort : ByteArray := prog_8_method_39_code
def yX6_firstShort : MethodName := ⟨RX6, "firstShort", "(I)I"⟩
abbrev cX6_richest : ByteArray := prog_8_method_40_code
def yX6_richest : MethodName := ⟨RX6, "richest", "(II)I"⟩
abbrev cX6_behindDebts : ByteArray := prog_8_method_41_code
def yX6_behindDebts : MethodName := ⟨RX6, "behindDebts", "(II)I"⟩
abbrev cX6_tiredBy : ByteArray := prog_8_method_42_code
def yX6_tiredBy : MethodName := ⟨RX6, "tiredBy", "(II)I"⟩
abbrev cX6_stateBy : ByteArray := prog_8_method_43_code
def yX6_stateBy : MethodName := ⟨RX6, "stateBy", "(III)I"⟩
abbrev cX6_purseBy : ByteArray := prog_8_method_44_code
def yX6_purseBy : MethodName := ⟨RX6, "purseBy", "(IIII)I"⟩
abbrev cX6_liveOn : ByteArray := prog_8_method_45_code
def yX6_liveOn : MethodName := ⟨RX6, "liveOn", "(I)V"⟩
abbrev cX6_mostFrom : ByteArray := prog_8_method_46_code
def yX6_mostFrom : MethodName := ⟨RX6, "mostFrom", "(IIII)I"⟩
abbrev cX6_lived : ByteArray := prog_8_method_47_code
def yX6_lived : MethodName := ⟨RX6, "lived", "(IIIII)I"⟩
abbrev cX6_life : ByteArray := prog_8_method_48_code
def yX6_life : MethodName := ⟨RX6, "life", "(III)I"⟩
abbrev cX6_canLie : ByteArray := prog_8_method_49_code
def yX6_canLie : MethodName := ⟨RX6, "canLie", "(II)Z"⟩
abbrev cX6_shift : ByteArray := prog_8_method_50_code
def yX6_shift : MethodName := ⟨RX6, "shift", "(II)I"⟩
abbrev cX6_findFewest : ByteArray := prog_8_method_51_code
def yX6_findFewest : MethodName := ⟨RX6, "findFewest", "(I)V"⟩
abbrev cX6_isCoin : ByteArray := prog_8_method_52_code
def yX6_isCoin : MethodName := ⟨RX6, "isCoin", "(I)Z"⟩
abbrev cX6_coins : ByteArray := prog_8_method_53_code
def yX6_coins : MethodName := ⟨RX6, "coins", "(II)I"⟩
abbrev cX6_strike : ByteArray := prog_8_method_54_code
def yX6_strike : MethodName := ⟨RX6, "strike", "(I)I"⟩
abbrev cX6_tested : ByteArray := prog_8_method_55_code
def yX6_tested : MethodName := ⟨RX6, "tested", "(IIII)J"⟩
abbrev cX6_isFalse : ByteArray := prog_8_method_56_code
def yX6_isFalse : MethodName := ⟨RX6, "isFalse", "(IIIII)I"⟩
abbrev cX6_prices : ByteArray := prog_8_method_57_code
def yX6_prices : MethodName := ⟨RX6, "prices", "(IIII)I"⟩
abbrev cX6_robbed : ByteArray := prog_8_method_58_code
def yX6_robbed : MethodName := ⟨RX6, "robbed", "(III)I"⟩
abbrev cX6_run : ByteArray := prog_8_method_59_code
def yX6_run : MethodName := ⟨RX6, "run", "(II)I"⟩
abbrev cX6_write : ByteArray := prog_8_method_60_code
def yX6_write : MethodName := ⟨RX6, "write", "(II)I"⟩
abbrev cX6_tear : ByteArray := prog_8_method_61_code
def yX6_tear : MethodName := ⟨RX6, "tear", "()I"⟩
abbrev cX6_judge : ByteArray := prog_8_method_62_code
def yX6_judge : MethodName := ⟨RX6, "judge", "()I"⟩
abbrev cX6_seed : ByteArray := prog_8_method_63_code
def yX6_seed : MethodName := ⟨RX6, "seed", "(I)I"⟩
abbrev cX6_keep : ByteArray := prog_8_method_64_code
def yX6_keep : MethodName := ⟨RX6, "keep", "(I)I"⟩
abbrev cX6_goBack : ByteArray := prog_8_method_65_code
def yX6_goBack : MethodName := ⟨RX6, "goBack", "(I)I"⟩
